set_option maxRecDepth 20000 in
theorem ggX11_isStorm_X11_in : GoodIn wsX11_isStorm wsX11_in := goodIn_r _ [4] (by decide +kernel) (by decide +kernel)
set_option maxRecDepth 20000 in
theorem gX11_isStorm_X11_in : GoodIn wsX11_isStorm (va_wsS RX11 75 yX11_in wsX11_in) := goodIn_app (goodIn_of _ (by decide +kernel)) ggX11_isStorm_X11_in
theorem dX11_isStorm_0 : decode cX11_isStorm 0 = .ok (.iload_n 0, 1) := by decide +kernel
theorem dX11_isStorm_1 : decode cX11_isStorm 1 = .ok (.iconst 1, 1) := by decide +kernel
theorem dX11_isStorm_2 : decode cX11_isStorm 2 = .ok (.bipush 99, 2) := by decide +kernel
theorem dX11_isStorm_4 : decode cX11_isStorm 4 = .ok (.invokestatic 75, 3) := by decide +kernel
theorem dX11_isStorm_7 : decode cX11_isStorm 7 = .ok (.ireturn, 1) := by decide +kernel
set_option maxRecDepth 20000 in
theorem ggX11_isSide_X11_in : GoodIn wsX11_isSide wsX11_in := goodIn_r _ [4] (by decide +kernel) (by decide +kernel)
set_option maxRecDepth 20000 in
theorem gX11_isSide_X11_in : GoodIn wsX11_isSide (va_wsS RX11 75 yX11_in wsX11_in) := goodIn_app (goodIn_of _ (by decide +kernel)) ggX11_isSide_X11_in
theorem dX11_isSide_0 : decode cX11_isSide 0 = .ok (.iload_n 0, 1) := by decide +kernel
theorem dX11_isSide_1 : decode cX11_isSide 1 = .ok (.iconst 0, 1) := by decide +kernel
theorem dX11_isSide_2 : decode cX11_isSide 2 = .ok (.iconst 1, 1) := by decide +kernel
theorem dX11_isSide_3 : decode cX11_isSide 3 = .ok (.invokestatic 75, 3) := by decide +kernel
theorem dX11_isSide_6 : decode cX11_isSide 6 = .ok (.ireturn, 1) := by decide +kernel
set_option maxRecDepth 20000 in
theorem ggX11_blow_X11_isLying : GoodIn wsX11_blow wsX11_isLying := goodIn_r _ [7, 2, 26, 27, 28, 29, 30, 31, 32, 33, 34, 35, 36, 37, 38, 39, 40, 41, 42, 43, 44, 45, 46, 47, 48, 49, 50, 51, 52, 53, 54, 55] (by decide +kernel) (by decide +kernel)
set_option maxRecDepth 20000 in
theorem gX11_blow_X11_isLying : GoodIn wsX11_blow (wsV RX11 137 RX11 yX11_isLying wsX11_isLying) := goodIn_app (goodIn_of _ (by decide +kernel)) ggX11_blow_X11_isLying
set_option maxRecDepth 20000 in
theorem ggX11_blow_X11_hold : GoodIn wsX11_blow wsX11_hold := goodIn_r _ [11, 1, 2, 3, 4, 5, 6, 7, 12, 13, 14, 15, 16, 17, 18, 19, 20, 21, 22, 26, 27, 28, 29, 30, 31, 32, 33, 34, 35, 36, 37, 38, 39, 40, 41, 42, 43, 44, 45, 46, 47, 48, 49, 50, 51, 52, 53, 54, 55] (by decide +kernel) (by decide +kernel)
set_option maxRecDepth 20000 in
theorem gX11_blow_X11_hold : GoodIn wsX11_blow (wsV RX11 169 RX11 yX11_hold wsX11_hold) := goodIn_app (goodIn_of _ (by decide +kernel)) ggX11_blow_X11_hold
set_option maxRecDepth 20000 in
theorem ggX11_blow_X11_has : GoodIn wsX11_blow wsX11_has := goodIn_r _ [25] (by decide +kernel) (by decide +kernel)
set_option maxRecDepth 20000 in
theorem gX11_blow_X11_has : GoodIn wsX11_blow (va_wsS RX11 144 yX11_has wsX11_has) := goodIn_app (goodIn_of _ (by decide +kernel)) ggX11_blow_X11_has
theorem dX11_blow_0 : decode cX11_blow 0 = .ok (.iconst 0, 1) := by decide +kernel
theorem dX11_blow_1 : decode cX11_blow 1 = .ok (.istore_n 3, 1) := by decide +kernel
theorem dX11_blow_2 : decode cX11_blow 2 = .ok (.iconst 0, 1) := by decide +kernel
theorem dX11_blow_3 : decode cX11_blow 3 = .ok (.istore 4, 2) := by decide +kernel
theorem dX11_blow_5 : decode cX11_blow 5 = .ok (.iconst 0, 1) := by decide +kernel
theorem dX11_blow_6 : decode cX11_blow 6 = .ok (.istore 5, 2) := by decide +kernel
theorem dX11_blow_8 : decode cX11_blow 8 = .ok (.iload 5, 2) := by decide +kernel
theorem dX11_blow_10 : decode cX11_blow 10 = .ok (.aload_n 0, 1) := by decide +kernel
theorem dX11_blow_11 : decode cX11_blow 11 = .ok (.getfield 29, 3) := by decide +kernel
theorem dX11_blow_14 : decode cX11_blow 14 = .ok (.iconst 0, 1) := by decide +kernel
theorem dX11_blow_15 : decode cX11_blow 15 = .ok (.iaload, 1) := by decide +kernel
theorem dX11_blow_16 : decode cX11_blow 16 = .ok (.if_icmp .ge 39, 3) := by decide +kernel
theorem dX11_blow_19 : decode cX11_blow 19 = .ok (.iload_n 3, 1) := by decide +kernel
theorem dX11_blow_20 : decode cX11_blow 20 = .ok (.aload_n 0, 1) := by decide +kernel
theorem dX11_blow_21 : decode cX11_blow 21 = .ok (.iload 5, 2) := by decide +kernel
theorem dX11_blow_23 : decode cX11_blow 23 = .ok (.invokevirtual 137, 3) := by decide +kernel
theorem dX11_blow_26 : decode cX11_blow 26 = .ok (.ifCond .eq 20, 3) := by decide +kernel
theorem dX11_blow_29 : decode cX11_blow 29 = .ok (.aload_n 0, 1) := by decide +kernel
theorem dX11_blow_30 : decode cX11_blow 30 = .ok (.iload 5, 2) := by decide +kernel
theorem dX11_blow_32 : decode cX11_blow 32 = .ok (.invokevirtual 169, 3) := by decide +kernel
theorem dX11_blow_35 : decode cX11_blow 35 = .ok (.iload_n 1, 1) := by decide +kernel
theorem dX11_blow_36 : decode cX11_blow 36 = .ok (.if_icmp .ge 10, 3) := by decide +kernel
theorem dX11_blow_39 : decode cX11_blow 39 = .ok (.iconst 1, 1) := by decide +kernel
theorem dX11_blow_40 : decode cX11_blow 40 = .ok (.iload 5, 2) := by decide +kernel
theorem dX11_blow_42 : decode cX11_blow 42 = .ok (.ishl, 1) := by decide +kernel
theorem dX11_blow_43 : decode cX11_blow 43 = .ok (.goto 4, 3) := by decide +kernel
theorem dX11_blow_46 : decode cX11_blow 46 = .ok (.iconst 0, 1) := by decide +kernel
theorem dX11_blow_47 : decode cX11_blow 47 = .ok (.ior, 1) := by decide +kernel
theorem dX11_blow_48 : decode cX11_blow 48 = .ok (.istore_n 3, 1) := by decide +kernel
theorem dX11_blow_49 : decode cX11_blow 49 = .ok (.iinc 5 1, 3) := by decide +kernel
theorem dX11_blow_52 : decode cX11_blow 52 = .ok (.goto (-44), 3) := by decide +kernel
theorem dX11_blow_55 : decode cX11_blow 55 = .ok (.iload_n 2, 1) := by decide +kernel
theorem dX11_blow_56 : decode cX11_blow 56 = .ok (.ifCond .ne 7, 3) := by decide +kernel
theorem dX11_blow_59 : decode cX11_blow 59 = .ok (.iconst 0, 1) := by decide +kernel
theorem dX11_blow_60 : decode cX11_blow 60 = .ok (.goto 5, 3) := by decide +kernel
theorem dX11_blow_63 : decode cX11_blow 63 = .ok (.bipush 9, 2) := by decide +kernel
theorem dX11_blow_65 : decode cX11_blow 65 = .ok (.istore 5, 2) := by decide +kernel
theorem dX11_blow_67 : decode cX11_blow 67 = .ok (.iconst 0, 1) := by decide +kernel
theorem dX11_blow_68 : decode cX11_blow 68 = .ok (.istore 6, 2) := by decide +kernel
theorem dX11_blow_70 : decode cX11_blow 70 = .ok (.iload 6, 2) := by decide +kernel
theorem dX11_blow_72 : decode cX11_blow 72 = .ok (.aload_n 0, 1) := by decide +kernel
theorem dX11_blow_73 : decode cX11_blow 73 = .ok (.getfield 29, 3) := by decide +kernel
theorem dX11_blow_76 : decode cX11_blow 76 = .ok (.iconst 0, 1) := by decide +kernel
theorem dX11_blow_77 : decode cX11_blow 77 = .ok (.iaload, 1) := by decide +kernel
theorem dX11_blow_78 : decode cX11_blow 78 = .ok (.if_icmp .ge 70, 3) := by decide +kernel
theorem dX11_blow_81 : decode cX11_blow 81 = .ok (.iload_n 3, 1) := by decide +kernel
theorem dX11_blow_82 : decode cX11_blow 82 = .ok (.iload 6, 2) := by decide +kernel
theorem dX11_blow_84 : decode cX11_blow 84 = .ok (.invokestatic 144, 3) := by decide +kernel
theorem dX11_blow_87 : decode cX11_blow 87 = .ok (.ifCond .eq 55, 3) := by decide +kernel
theorem dX11_blow_90 : decode cX11_blow 90 = .ok (.aload_n 0, 1) := by decide +kernel
theorem dX11_blow_91 : decode cX11_blow 91 = .ok (.getfield 47, 3) := by decide +kernel
theorem dX11_blow_94 : decode cX11_blow 94 = .ok (.iconst 0, 1) := by decide +kernel
theorem dX11_blow_95 : decode cX11_blow 95 = .ok (.iload 6, 2) := by decide +kernel
theorem dX11_blow_97 : decode cX11_blow 97 = .ok (.iadd, 1) := by decide +kernel
theorem dX11_blow_98 : decode cX11_blow 98 = .ok (.iaload, 1) := by decide +kernel
theorem dX11_blow_99 : decode cX11_blow 99 = .ok (.iload 5, 2) := by decide +kernel
theorem dX11_blow_101 : decode cX11_blow 101 = .ok (.if_icmp .ne 20, 3) := by decide +kernel
theorem dX11_blow_104 : decode cX11_blow 104 = .ok (.aload_n 0, 1) := by decide +kernel
theorem dX11_blow_105 : decode cX11_blow 105 = .ok (.getfield 47, 3) := by decide +kernel
theorem dX11_blow_108 : decode cX11_blow 108 = .ok (.bipush 24, 2) := by decide +kernel
theorem dX11_blow_110 : decode cX11_blow 110 = .ok (.iload 6, 2) := by decide +kernel
theorem dX11_blow_112 : decode cX11_blow 112 = .ok (.iadd, 1) := by decide +kernel
theorem dX11_blow_113 : decode cX11_blow 113 = .ok (.iconst 2, 1) := by decide +kernel
theorem dX11_blow_114 : decode cX11_blow 114 = .ok (.iastore, 1) := by decide +kernel
theorem dX11_blow_115 : decode cX11_blow 115 = .ok (.iinc 4 1, 3) := by decide +kernel
theorem dX11_blow_118 : decode cX11_blow 118 = .ok (.goto 24, 3) := by decide +kernel
theorem dX11_blow_121 : decode cX11_blow 121 = .ok (.aload_n 0, 1) := by decide +kernel
theorem dX11_blow_122 : decode cX11_blow 122 = .ok (.getfield 47, 3) := by decide +kernel
theorem dX11_blow_125 : decode cX11_blow 125 = .ok (.iconst 0, 1) := by decide +kernel
theorem dX11_blow_126 : decode cX11_blow 126 = .ok (.iload 6, 2) := by decide +kernel
theorem dX11_blow_128 : decode cX11_blow 128 = .ok (.iadd, 1) := by decide +kernel
theorem dX11_blow_129 : decode cX11_blow 129 = .ok (.dup2, 1) := by decide +kernel
theorem dX11_blow_130 : decode cX11_blow 130 = .ok (.iaload, 1) := by decide +kernel
theorem dX11_blow_131 : decode cX11_blow 131 = .ok (.iload_n 2, 1) := by decide +kernel
theorem dX11_blow_132 : decode cX11_blow 132 = .ok (.ifCond .ne 7, 3) := by decide +kernel
theorem dX11_blow_135 : decode cX11_blow 135 = .ok (.iconst (-1), 1) := by decide +kernel
theorem dX11_blow_136 : decode cX11_blow 136 = .ok (.goto 4, 3) := by decide +kernel
theorem dX11_blow_139 : decode cX11_blow 139 = .ok (.iconst 1, 1) := by decide +kernel
theorem dX11_blow_140 : decode cX11_blow 140 = .ok (.iadd, 1) := by decide +kernel
theorem dX11_blow_141 : decode cX11_blow 141 = .ok (.iastore, 1) := by decide +kernel
theorem dX11_blow_142 : decode cX11_blow 142 = .ok (.iinc 6 1, 3) := by decide +kernel
theorem dX11_blow_145 : decode cX11_blow 145 = .ok (.goto (-75), 3) := by decide +kernel
theorem dX11_blow_148 : decode cX11_blow 148 = .ok (.iload 4, 2) := by decide +kernel
theorem dX11_blow_150 : decode cX11_blow 150 = .ok (.ireturn, 1) := by decide +kernel
set_option maxRecDepth 20000 in
theorem ggX11_storms_X11_isStorm : GoodIn wsX11_storms wsX11_isStorm := goodIn_r _ [4, 5, 6, 3, 7] (by decide +kernel) (by decide +kernel)
set_option maxRecDepth 20000 in
theorem gX11_storms_X11_isStorm : GoodIn wsX11_storms (va_wsS RX11 172 yX11_isStorm wsX11_isStorm) := goodIn_app (goodIn_of _ (by decide +kernel)) ggX11_storms_X11_isStorm
set_option maxRecDepth 20000 in
theorem ggX11_storms_X11_isSide : GoodIn wsX11_storms wsX11_isSide := goodIn_r _ [10, 5, 6, 3, 7] (by decide +kernel) (by decide +kernel)
set_option maxRecDepth 20000 in
theorem gX11_storms_X11_isSide : GoodIn wsX11_storms (va_wsS RX11 175 yX11_isSide wsX11_isSide) := goodIn_app (goodIn_of _ (by decide +kernel)) ggX11_storms_X11_isSide
set_option maxRecDepth 20000 in
theorem ggX11_storms_X11_know : GoodIn wsX11_storms wsX11_know := goodIn_r _ [14, 15, 16, 17, 45, 46, 47, 48, 49, 50, 51, 52, 53, 54, 55, 56, 57, 58, 59, 60, 61, 62, 63, 64, 65, 66, 67, 68, 69, 70, 71, 72, 73, 74] (by decide +kernel) (by decide +kernel)
set_option maxRecDepth 20000 in
theorem gX11_storms_X11_know : GoodIn wsX11_storms (wsV RX11 178 RX11 yX11_know wsX11_know) := goodIn_app (goodIn_of _ (by decide +kernel)) ggX11_storms_X11_know
set_option maxRecDepth 20000 in
theorem ggX11_storms_X11_blow : GoodIn wsX11_storms wsX11_blow := goodIn_r _ [21, 22, 17, 23, 24, 25, 3, 26, 27, 28, 29, 30, 31, 32, 33, 34, 35, 36, 37, 38, 39, 40, 41, 42, 43, 44, 45, 46, 47, 48, 49, 50, 51, 52, 53, 54, 55, 56, 57, 58, 59, 60, 61, 62, 63, 64, 65, 66, 67, 68, 69, 70, 71, 72, 73, 74] (by decide +kernel) (by decide +kernel)
set_option maxRecDepth 20000 in
theorem gX11_storms_X11_blow : GoodIn wsX11_storms (wsV RX11 181 RX11 yX11_blow wsX11_blow) := goodIn_app (goodIn_of _ (by decide +kernel)) ggX11_storms_X11_blow
theorem dX11_storms_0 : decode cX11_storms 0 = .ok (.iload_n 1, 1) := by decide +kernel
theorem dX11_storms_1 : decode cX11_storms 1 = .ok (.invokestatic 172, 3) := by decide +kernel
theorem dX11_storms_4 : decode cX11_storms 4 = .ok (.ifCond .eq 10, 3) := by decide +kernel
theorem dX11_storms_7 : decode cX11_storms 7 = .ok (.iload_n 2, 1) := by decide +kernel
theorem dX11_storms_8 : decode cX11_storms 8 = .ok (.invokestatic 175, 3) := by decide +kernel
theorem dX11_storms_11 : decode cX11_storms 11 = .ok (.ifCond .ne 5, 3) := by decide +kernel
theorem dX11_storms_14 : decode cX11_storms 14 = .ok (.iconst (-1), 1) := by decide +kernel
theorem dX11_storms_15 : decode cX11_storms 15 = .ok (.ireturn, 1) := by decide +kernel
theorem dX11_storms_16 : decode cX11_storms 16 = .ok (.aload_n 0, 1) := by decide +kernel
theorem dX11_storms_17 : decode cX11_storms 17 = .ok (.invokevirtual 178, 3) := by decide +kernel
theorem dX11_storms_20 : decode cX11_storms 20 = .ok (.aload_n 0, 1) := by decide +kernel
theorem dX11_storms_21 : decode cX11_storms 21 = .ok (.iload_n 1, 1) := by decide +kernel
theorem dX11_storms_22 : decode cX11_storms 22 = .ok (.iload_n 2, 1) := by decide +kernel
theorem dX11_storms_23 : decode cX11_storms 23 = .ok (.invokevirtual 181, 3) := by decide +kernel
theorem dX11_storms_26 : decode cX11_storms 26 = .ok (.ireturn, 1) := by decide +kernel
set_option maxRecDepth 20000 in
theorem ggX11_pays_X11_isAnchor : GoodIn wsX11_pays wsX11_isAnchor := goodIn_r _ [6, 7, 8, 9, 5, 10, 21, 22, 23, 24, 25, 26, 27, 28, 29, 30, 31, 32, 33, 34, 35, 36, 37, 38, 39, 40, 41, 42, 43, 44, 45, 46, 47, 48, 49, 50] (by decide +kernel) (by decide +kernel)
set_option maxRecDepth 20000 in
theorem gX11_pays_X11_isAnchor : GoodIn wsX11_pays (wsV RX11 166 RX11 yX11_isAnchor wsX11_isAnchor) := goodIn_app (goodIn_of _ (by decide +kernel)) ggX11_pays_X11_isAnchor
set_option maxRecDepth 20000 in
theorem ggX11_pays_X11_in : GoodIn wsX11_pays wsX11_in := goodIn_r _ [10] (by decide +kernel) (by decide +kernel)
set_option maxRecDepth 20000 in
theorem gX11_pays_X11_in : GoodIn wsX11_pays (va_wsS RX11 75 yX11_in wsX11_in) := goodIn_app (goodIn_of _ (by decide +kernel)) ggX11_pays_X11_in
set_option maxRecDepth 20000 in
theorem ggX11_pays_X11_isLying : GoodIn wsX11_pays wsX11_isLying := goodIn_r _ [14, 1, 21, 22, 23, 24, 25, 26, 27, 28, 29, 30, 31, 32, 33, 34, 35, 36, 37, 38, 39, 40, 41, 42, 43, 44, 45, 46, 47, 48, 49, 50] (by decide +kernel) (by decide +kernel)
set_option maxRecDepth 20000 in
theorem gX11_pays_X11_isLying : GoodIn wsX11_pays (wsV RX11 137 RX11 yX11_isLying wsX11_isLying) := goodIn_app (goodIn_of _ (by decide +kernel)) ggX11_pays_X11_isLying
set_option maxRecDepth 20000 in
theorem ggX11_pays_X11_know : GoodIn wsX11_pays wsX11_know := goodIn_r _ [18, 19, 20, 1, 21, 22, 23, 24, 25, 26, 27, 28, 29, 30, 31, 32, 33, 34, 35, 36, 37, 38, 39, 40, 41, 42, 43, 44, 45, 46, 47, 48, 49, 50] (by decide +kernel) (by decide +kernel)
set_option maxRecDepth 20000 in
theorem gX11_pays_X11_know : GoodIn wsX11_pays (wsV RX11 178 RX11 yX11_know wsX11_know) := goodIn_app (goodIn_of _ (by decide +kernel)) ggX11_pays_X11_know
theorem dX11_pays_0 : decode cX11_pays 0 = .ok (.aload_n 0, 1) := by decide +kernel
theorem dX11_pays_1 : decode cX11_pays 1 = .ok (.iload_n 1, 1) := by decide +kernel
theorem dX11_pays_2 : decode cX11_pays 2 = .ok (.invokevirtual 166, 3) := by decide +kernel
theorem dX11_pays_5 : decode cX11_pays 5 = .ok (.ifCond .eq 18, 3) := by decide +kernel
theorem dX11_pays_8 : decode cX11_pays 8 = .ok (.iload_n 2, 1) := by decide +kernel
theorem dX11_pays_9 : decode cX11_pays 9 = .ok (.bipush (-9), 2) := by decide +kernel
theorem dX11_pays_11 : decode cX11_pays 11 = .ok (.bipush 9, 2) := by decide +kernel
theorem dX11_pays_13 : decode cX11_pays 13 = .ok (.invokestatic 75, 3) := by decide +kernel
theorem dX11_pays_16 : decode cX11_pays 16 = .ok (.ifCond .eq 7, 3) := by decide +kernel
theorem dX11_pays_19 : decode cX11_pays 19 = .ok (.iload_n 2, 1) := by decide +kernel
theorem dX11_pays_20 : decode cX11_pays 20 = .ok (.ifCond .ne 5, 3) := by decide +kernel
theorem dX11_pays_23 : decode cX11_pays 23 = .ok (.iconst (-1), 1) := by decide +kernel
theorem dX11_pays_24 : decode cX11_pays 24 = .ok (.ireturn, 1) := by decide +kernel
theorem dX11_pays_25 : decode cX11_pays 25 = .ok (.aload_n 0, 1) := by decide +kernel
theorem dX11_pays_26 : decode cX11_pays 26 = .ok (.iload_n 1, 1) := by decide +kernel
theorem dX11_pays_27 : decode cX11_pays 27 = .ok (.invokevirtual 137, 3) := by decide +kernel
theorem dX11_pays_30 : decode cX11_pays 30 = .ok (.ifCond .eq 23, 3) := by decide +kernel
theorem dX11_pays_33 : decode cX11_pays 33 = .ok (.aload_n 0, 1) := by decide +kernel
theorem dX11_pays_34 : decode cX11_pays 34 = .ok (.getfield 47, 3) := by decide +kernel
theorem dX11_pays_37 : decode cX11_pays 37 = .ok (.bipush 8, 2) := by decide +kernel
theorem dX11_pays_39 : decode cX11_pays 39 = .ok (.iload_n 1, 1) := by decide +kernel
theorem dX11_pays_40 : decode cX11_pays 40 = .ok (.iadd, 1) := by decide +kernel
theorem dX11_pays_41 : decode cX11_pays 41 = .ok (.iaload, 1) := by decide +kernel
theorem dX11_pays_42 : decode cX11_pays 42 = .ok (.iload_n 2, 1) := by decide +kernel
theorem dX11_pays_43 : decode cX11_pays 43 = .ok (.iadd, 1) := by decide +kernel
theorem dX11_pays_44 : decode cX11_pays 44 = .ok (.iconst 1, 1) := by decide +kernel
theorem dX11_pays_45 : decode cX11_pays 45 = .ok (.bipush 60, 2) := by decide +kernel
theorem dX11_pays_47 : decode cX11_pays 47 = .ok (.invokestatic 75, 3) := by decide +kernel
theorem dX11_pays_50 : decode cX11_pays 50 = .ok (.ifCond .ne 6, 3) := by decide +kernel
theorem dX11_pays_53 : decode cX11_pays 53 = .ok (.bipush (-2), 2) := by decide +kernel
theorem dX11_pays_55 : decode cX11_pays 55 = .ok (.ireturn, 1) := by decide +kernel
theorem dX11_pays_56 : decode cX11_pays 56 = .ok (.aload_n 0, 1) := by decide +kernel
theorem dX11_pays_57 : decode cX11_pays 57 = .ok (.invokevirtual 178, 3) := by decide +kernel
theorem dX11_pays_60 : decode cX11_pays 60 = .ok (.aload_n 0, 1) := by decide +kernel
theorem dX11_pays_61 : decode cX11_pays 61 = .ok (.getfield 47, 3) := by decide +kernel
theorem dX11_pays_64 : decode cX11_pays 64 = .ok (.bipush 8, 2) := by decide +kernel
theorem dX11_pays_66 : decode cX11_pays 66 = .ok (.iload_n 1, 1) := by decide +kernel
theorem dX11_pays_67 : decode cX11_pays 67 = .ok (.iadd, 1) := by decide +kernel
theorem dX11_pays_68 : decode cX11_pays 68 = .ok (.dup2, 1) := by decide +kernel
theorem dX11_pays_69 : decode cX11_pays 69 = .ok (.iaload, 1) := by decide +kernel
theorem dX11_pays_70 : decode cX11_pays 70 = .ok (.iload_n 2, 1) := by decide +kernel
theorem dX11_pays_71 : decode cX11_pays 71 = .ok (.iadd, 1) := by decide +kernel
theorem dX11_pays_72 : decode cX11_pays 72 = .ok (.iastore, 1) := by decide +kernel
theorem dX11_pays_73 : decode cX11_pays 73 = .ok (.aload_n 0, 1) := by decide +kernel
theorem dX11_pays_74 : decode cX11_pays 74 = .ok (.getfield 47, 3) := by decide +kernel
theorem dX11_pays_77 : decode cX11_pays 77 = .ok (.bipush 8, 2) := by decide +kernel
theorem dX11_pays_79 : decode cX11_pays 79 = .ok (.iload_n 1, 1) := by decide +kernel
theorem dX11_pays_80 : decode cX11_pays 80 = .ok (.iadd, 1) := by decide +kernel
theorem dX11_pays_81 : decode cX11_pays 81 = .ok (.iaload, 1) := by decide +kernel
theorem dX11_pays_82 : decode cX11_pays 82 = .ok (.ireturn, 1) := by decide +kernel
set_option maxRecDepth 20000 in
theorem ggX11_dies_X11_isRaft : GoodIn wsX11_dies wsX11_isRaft := goodIn_r _ [6, 7, 8, 9, 5, 10, 23, 24, 25, 26, 27, 28, 29, 30, 31, 32, 33, 34, 35, 36, 37, 38, 39, 40, 41, 42, 43, 44, 45, 46, 47, 48, 49, 50, 51, 52] (by decide +kernel) (by decide +kernel)
set_option maxRecDepth 20000 in
theorem gX11_dies_X11_isRaft : GoodIn wsX11_dies (wsV RX11 157 RX11 yX11_isRaft wsX11_isRaft) := goodIn_app (goodIn_of _ (by decide +kernel)) ggX11_dies_X11_isRaft
set_option maxRecDepth 20000 in
theorem ggX11_dies_X11_has : GoodIn wsX11_dies wsX11_has := goodIn_r _ [13] (by decide +kernel) (by decide +kernel)
set_option maxRecDepth 20000 in
theorem gX11_dies_X11_has : GoodIn wsX11_dies (va_wsS RX11 144 yX11_has wsX11_has) := goodIn_app (goodIn_of _ (by decide +kernel)) ggX11_dies_X11_has
set_option maxRecDepth 20000 in
theorem ggX11_dies_X11_know : GoodIn wsX11_dies wsX11_know := goodIn_r _ [17, 18, 19, 1, 23, 24, 25, 26, 27, 28, 29, 30, 31, 32, 33, 34, 35, 36, 37, 38, 39, 40, 41, 42, 43, 44, 45, 46, 47, 48, 49, 50, 51, 52] (by decide +kernel) (by decide +kernel)
set_option maxRecDepth 20000 in
theorem gX11_dies_X11_know : GoodIn wsX11_dies (wsV RX11 178 RX11 yX11_know wsX11_know) := goodIn_app (goodIn_of _ (by decide +kernel)) ggX11_dies_X11_know
set_option maxRecDepth 20000 in
theorem ggX11_dies_X11_bitsOf : GoodIn wsX11_dies wsX11_bitsOf := goodIn_r _ [22] (by decide +kernel) (by decide +kernel)
set_option maxRecDepth 20000 in
theorem gX11_dies_X11_bitsOf : GoodIn wsX11_dies (va_wsS RX11 184 yX11_bitsOf wsX11_bitsOf) := goodIn_app (goodIn_of _ (by decide +kernel)) ggX11_dies_X11_bitsOf
theorem dX11_dies_0 : decode cX11_dies 0 = .ok (.aload_n 0, 1) := by decide +kernel
theorem dX11_dies_1 : decode cX11_dies 1 = .ok (.iload_n 1, 1) := by decide +kernel
theorem dX11_dies_2 : decode cX11_dies 2 = .ok (.invokevirtual 157, 3) := by decide +kernel
theorem dX11_dies_5 : decode cX11_dies 5 = .ok (.ifCond .ne 5, 3) := by decide +kernel
theorem dX11_dies_8 : decode cX11_dies 8 = .ok (.iconst (-1), 1) := by decide +kernel
theorem dX11_dies_9 : decode cX11_dies 9 = .ok (.ireturn, 1) := by decide +kernel
theorem dX11_dies_10 : decode cX11_dies 10 = .ok (.aload_n 0, 1) := by decide +kernel
theorem dX11_dies_11 : decode cX11_dies 11 = .ok (.getfield 47, 3) := by decide +kernel
theorem dX11_dies_14 : decode cX11_dies 14 = .ok (.bipush 32, 2) := by decide +kernel
theorem dX11_dies_16 : decode cX11_dies 16 = .ok (.iaload, 1) := by decide +kernel
theorem dX11_dies_17 : decode cX11_dies 17 = .ok (.iload_n 1, 1) := by decide +kernel
theorem dX11_dies_18 : decode cX11_dies 18 = .ok (.invokestatic 144, 3) := by decide +kernel
theorem dX11_dies_21 : decode cX11_dies 21 = .ok (.ifCond .eq 6, 3) := by decide +kernel
theorem dX11_dies_24 : decode cX11_dies 24 = .ok (.bipush (-2), 2) := by decide +kernel
theorem dX11_dies_26 : decode cX11_dies 26 = .ok (.ireturn, 1) := by decide +kernel
theorem dX11_dies_27 : decode cX11_dies 27 = .ok (.aload_n 0, 1) := by decide +kernel
theorem dX11_dies_28 : decode cX11_dies 28 = .ok (.invokevirtual 178, 3) := by decide +kernel
theorem dX11_dies_31 : decode cX11_dies 31 = .ok (.aload_n 0, 1) := by decide +kernel
theorem dX11_dies_32 : decode cX11_dies 32 = .ok (.getfield 47, 3) := by decide +kernel
theorem dX11_dies_35 : decode cX11_dies 35 = .ok (.bipush 32, 2) := by decide +kernel
theorem dX11_dies_37 : decode cX11_dies 37 = .ok (.dup2, 1) := by decide +kernel
theorem dX11_dies_38 : decode cX11_dies 38 = .ok (.iaload, 1) := by decide +kernel
theorem dX11_dies_39 : decode cX11_dies 39 = .ok (.iconst 1, 1) := by decide +kernel
theorem dX11_dies_40 : decode cX11_dies 40 = .ok (.iload_n 1, 1) := by decide +kernel
theorem dX11_dies_41 : decode cX11_dies 41 = .ok (.ishl, 1) := by decide +kernel
theorem dX11_dies_42 : decode cX11_dies 42 = .ok (.ior, 1) := by decide +kernel
theorem dX11_dies_43 : decode cX11_dies 43 = .ok (.iastore, 1) := by decide +kernel
theorem dX11_dies_44 : decode cX11_dies 44 = .ok (.aload_n 0, 1) := by decide +kernel
theorem dX11_dies_45 : decode cX11_dies 45 = .ok (.getfield 47, 3) := by decide +kernel
theorem dX11_dies_48 : decode cX11_dies 48 = .ok (.bipush 32, 2) := by decide +kernel
theorem dX11_dies_50 : decode cX11_dies 50 = .ok (.iaload, 1) := by decide +kernel
theorem dX11_dies_51 : decode cX11_dies 51 = .ok (.invokestatic 184, 3) := by decide +kernel
theorem dX11_dies_54 : decode cX11_dies 54 = .ok (.ireturn, 1) := by decide +kernel
set_option maxRecDepth 20000 in
theorem ggX11_wills_X11_isRaft : GoodIn wsX11_wills wsX11_isRaft := goodIn_r _ [6, 7, 8, 9, 5, 10, 20, 21, 22, 23, 24, 25, 26, 27, 28, 29, 30, 31, 32, 33, 34, 35, 36, 37, 38, 39, 40, 41, 42, 43, 44, 45, 46, 47, 48, 49] (by decide +kernel) (by decide +kernel)
set_option maxRecDepth 20000 in
theorem gX11_wills_X11_isRaft : GoodIn wsX11_wills (wsV RX11 157 RX11 yX11_isRaft wsX11_isRaft) := goodIn_app (goodIn_of _ (by decide +kernel)) ggX11_wills_X11_isRaft
set_option maxRecDepth 20000 in
theorem ggX11_wills_X11_has : GoodIn wsX11_wills wsX11_has := goodIn_r _ [13] (by decide +kernel) (by decide +kernel)
set_option maxRecDepth 20000 in
theorem gX11_wills_X11_has : GoodIn wsX11_wills (va_wsS RX11 144 yX11_has wsX11_has) := goodIn_app (goodIn_of _ (by decide +kernel)) ggX11_wills_X11_has
set_option maxRecDepth 20000 in
theorem ggX11_wills_X11_know : GoodIn wsX11_wills wsX11_know := goodIn_r _ [17, 18, 19, 1, 20, 21, 22, 23, 24, 25, 26, 27, 28, 29, 30, 31, 32, 33, 34, 35, 36, 37, 38, 39, 40, 41, 42, 43, 44, 45, 46, 47, 48, 49] (by decide +kernel) (by decide +kernel)
set_option maxRecDepth 20000 in
theorem gX11_wills_X11_know : GoodIn wsX11_wills (wsV RX11 178 RX11 yX11_know wsX11_know) := goodIn_app (goodIn_of _ (by decide +kernel)) ggX11_wills_X11_know
theorem dX11_wills_0 : decode cX11_wills 0 = .ok (.aload_n 0, 1) := by decide +kernel
theorem dX11_wills_1 : decode cX11_wills 1 = .ok (.iload_n 1, 1) := by decide +kernel
theorem dX11_wills_2 : decode cX11_wills 2 = .ok (.invokevirtual 157, 3) := by decide +kernel
theorem dX11_wills_5 : decode cX11_wills 5 = .ok (.ifCond .eq 11, 3) := by decide +kernel
theorem dX11_wills_8 : decode cX11_wills 8 = .ok (.aload_n 0, 1) := by decide +kernel
theorem dX11_wills_9 : decode cX11_wills 9 = .ok (.iload_n 2, 1) := by decide +kernel
theorem dX11_wills_10 : decode cX11_wills 10 = .ok (.invokevirtual 157, 3) := by decide +kernel
theorem dX11_wills_13 : decode cX11_wills 13 = .ok (.ifCond .ne 5, 3) := by decide +kernel
theorem dX11_wills_16 : decode cX11_wills 16 = .ok (.iconst (-1), 1) := by decide +kernel
theorem dX11_wills_17 : decode cX11_wills 17 = .ok (.ireturn, 1) := by decide +kernel
theorem dX11_wills_18 : decode cX11_wills 18 = .ok (.aload_n 0, 1) := by decide +kernel
theorem dX11_wills_19 : decode cX11_wills 19 = .ok (.getfield 47, 3) := by decide +kernel
theorem dX11_wills_22 : decode cX11_wills 22 = .ok (.bipush 33, 2) := by decide +kernel
theorem dX11_wills_24 : decode cX11_wills 24 = .ok (.iload_n 1, 1) := by decide +kernel
theorem dX11_wills_25 : decode cX11_wills 25 = .ok (.iadd, 1) := by decide +kernel
theorem dX11_wills_26 : decode cX11_wills 26 = .ok (.iaload, 1) := by decide +kernel
theorem dX11_wills_27 : decode cX11_wills 27 = .ok (.istore_n 3, 1) := by decide +kernel
theorem dX11_wills_28 : decode cX11_wills 28 = .ok (.aload_n 0, 1) := by decide +kernel
theorem dX11_wills_29 : decode cX11_wills 29 = .ok (.getfield 47, 3) := by decide +kernel
theorem dX11_wills_32 : decode cX11_wills 32 = .ok (.bipush 32, 2) := by decide +kernel
theorem dX11_wills_34 : decode cX11_wills 34 = .ok (.iaload, 1) := by decide +kernel
theorem dX11_wills_35 : decode cX11_wills 35 = .ok (.iload_n 1, 1) := by decide +kernel
theorem dX11_wills_36 : decode cX11_wills 36 = .ok (.invokestatic 144, 3) := by decide +kernel
theorem dX11_wills_39 : decode cX11_wills 39 = .ok (.ifCond .ne 8, 3) := by decide +kernel
theorem dX11_wills_42 : decode cX11_wills 42 = .ok (.iload_n 3, 1) := by decide +kernel
theorem dX11_wills_43 : decode cX11_wills 43 = .ok (.iload_n 2, 1) := by decide +kernel
theorem dX11_wills_44 : decode cX11_wills 44 = .ok (.if_icmp .ne 6, 3) := by decide +kernel
theorem dX11_wills_47 : decode cX11_wills 47 = .ok (.bipush (-2), 2) := by decide +kernel
theorem dX11_wills_49 : decode cX11_wills 49 = .ok (.ireturn, 1) := by decide +kernel
theorem dX11_wills_50 : decode cX11_wills 50 = .ok (.aload_n 0, 1) := by decide +kernel
theorem dX11_wills_51 : decode cX11_wills 51 = .ok (.invokevirtual 178, 3) := by decide +kernel
theorem dX11_wills_54 : decode cX11_wills 54 = .ok (.aload_n 0, 1) := by decide +kernel
theorem dX11_wills_55 : decode cX11_wills 55 = .ok (.getfield 47, 3) := by decide +kernel
theorem dX11_wills_58 : decode cX11_wills 58 = .ok (.bipush 33, 2) := by decide +kernel
theorem dX11_wills_60 : decode cX11_wills 60 = .ok (.iload_n 1, 1) := by decide +kernel
theorem dX11_wills_61 : decode cX11_wills 61 = .ok (.iadd, 1) := by decide +kernel
theorem dX11_wills_62 : decode cX11_wills 62 = .ok (.iload_n 2, 1) := by decide +kernel
theorem dX11_wills_63 : decode cX11_wills 63 = .ok (.iastore, 1) := by decide +kernel
theorem dX11_wills_64 : decode cX11_wills 64 = .ok (.iload_n 3, 1) := by decide +kernel
theorem dX11_wills_65 : decode cX11_wills 65 = .ok (.ireturn, 1) := by decide +kernel
set_option maxRecDepth 20000 in
theorem ggX11_year_X11_know : GoodIn wsX11_year wsX11_know := goodIn_r _ [7, 8, 9, 2, 14, 15, 16, 17, 18, 19, 20, 21, 22, 23, 24, 25, 26, 27, 28, 29, 30, 31, 32, 33, 34, 35, 36, 37, 38, 39, 40, 41, 42, 43] (by decide +kernel) (by decide +kernel)
set_option maxRecDepth 20000 in
theorem gX11_year_X11_know : GoodIn wsX11_year (wsV RX11 178 RX11 yX11_know wsX11_know) := goodIn_app (goodIn_of _ (by decide +kernel)) ggX11_year_X11_know
set_option maxRecDepth 20000 in
theorem ggX11_year_X11_isLying : GoodIn wsX11_year wsX11_isLying := goodIn_r _ [13, 2, 14, 15, 16, 17, 18, 19, 20, 21, 22, 23, 24, 25, 26, 27, 28, 29, 30, 31, 32, 33, 34, 35, 36, 37, 38, 39, 40, 41, 42, 43] (by decide +kernel) (by decide +kernel)
set_option maxRecDepth 20000 in
theorem gX11_year_X11_isLying : GoodIn wsX11_year (wsV RX11 137 RX11 yX11_isLying wsX11_isLying) := goodIn_app (goodIn_of _ (by decide +kernel)) ggX11_year_X11_isLying
theorem dX11_year_0 : decode cX11_year 0 = .ok (.aload_n 0, 1) := by decide +kernel
theorem dX11_year_1 : decode cX11_year 1 = .ok (.invokevirtual 178, 3) := by decide +kernel
theorem dX11_year_4 : decode cX11_year 4 = .ok (.iconst 0, 1) := by decide +kernel
theorem dX11_year_5 : decode cX11_year 5 = .ok (.istore_n 1, 1) := by decide +kernel
theorem dX11_year_6 : decode cX11_year 6 = .ok (.iconst 0, 1) := by decide +kernel
theorem dX11_year_7 : decode cX11_year 7 = .ok (.istore_n 2, 1) := by decide +kernel
theorem dX11_year_8 : decode cX11_year 8 = .ok (.iload_n 2, 1) := by decide +kernel
theorem dX11_year_9 : decode cX11_year 9 = .ok (.aload_n 0, 1) := by decide +kernel
theorem dX11_year_10 : decode cX11_year 10 = .ok (.getfield 29, 3) := by decide +kernel
theorem dX11_year_13 : decode cX11_year 13 = .ok (.iconst 0, 1) := by decide +kernel
theorem dX11_year_14 : decode cX11_year 14 = .ok (.iaload, 1) := by decide +kernel
theorem dX11_year_15 : decode cX11_year 15 = .ok (.if_icmp .ge 72, 3) := by decide +kernel
theorem dX11_year_18 : decode cX11_year 18 = .ok (.aload_n 0, 1) := by decide +kernel
theorem dX11_year_19 : decode cX11_year 19 = .ok (.getfield 47, 3) := by decide +kernel
theorem dX11_year_22 : decode cX11_year 22 = .ok (.bipush 16, 2) := by decide +kernel
theorem dX11_year_24 : decode cX11_year 24 = .ok (.iload_n 2, 1) := by decide +kernel
theorem dX11_year_25 : decode cX11_year 25 = .ok (.iadd, 1) := by decide +kernel
theorem dX11_year_26 : decode cX11_year 26 = .ok (.dup2, 1) := by decide +kernel
theorem dX11_year_27 : decode cX11_year 27 = .ok (.iaload, 1) := by decide +kernel
theorem dX11_year_28 : decode cX11_year 28 = .ok (.aload_n 0, 1) := by decide +kernel
theorem dX11_year_29 : decode cX11_year 29 = .ok (.iload_n 2, 1) := by decide +kernel
theorem dX11_year_30 : decode cX11_year 30 = .ok (.invokevirtual 137, 3) := by decide +kernel
theorem dX11_year_33 : decode cX11_year 33 = .ok (.ifCond .eq 21, 3) := by decide +kernel
theorem dX11_year_36 : decode cX11_year 36 = .ok (.aload_n 0, 1) := by decide +kernel
theorem dX11_year_37 : decode cX11_year 37 = .ok (.getfield 47, 3) := by decide +kernel
theorem dX11_year_40 : decode cX11_year 40 = .ok (.bipush 16, 2) := by decide +kernel
theorem dX11_year_42 : decode cX11_year 42 = .ok (.iload_n 2, 1) := by decide +kernel
theorem dX11_year_43 : decode cX11_year 43 = .ok (.iadd, 1) := by decide +kernel
theorem dX11_year_44 : decode cX11_year 44 = .ok (.iaload, 1) := by decide +kernel
theorem dX11_year_45 : decode cX11_year 45 = .ok (.bipush 99, 2) := by decide +kernel
theorem dX11_year_47 : decode cX11_year 47 = .ok (.if_icmp .ge 7, 3) := by decide +kernel
theorem dX11_year_50 : decode cX11_year 50 = .ok (.iconst 1, 1) := by decide +kernel
theorem dX11_year_51 : decode cX11_year 51 = .ok (.goto 4, 3) := by decide +kernel
theorem dX11_year_54 : decode cX11_year 54 = .ok (.iconst 0, 1) := by decide +kernel
theorem dX11_year_55 : decode cX11_year 55 = .ok (.iadd, 1) := by decide +kernel
theorem dX11_year_56 : decode cX11_year 56 = .ok (.iastore, 1) := by decide +kernel
theorem dX11_year_57 : decode cX11_year 57 = .ok (.iload_n 1, 1) := by decide +kernel
theorem dX11_year_58 : decode cX11_year 58 = .ok (.aload_n 0, 1) := by decide +kernel
theorem dX11_year_59 : decode cX11_year 59 = .ok (.iload_n 2, 1) := by decide +kernel
theorem dX11_year_60 : decode cX11_year 60 = .ok (.invokevirtual 137, 3) := by decide +kernel
theorem dX11_year_63 : decode cX11_year 63 = .ok (.ifCond .eq 15, 3) := by decide +kernel
theorem dX11_year_66 : decode cX11_year 66 = .ok (.aload_n 0, 1) := by decide +kernel
theorem dX11_year_67 : decode cX11_year 67 = .ok (.getfield 47, 3) := by decide +kernel
theorem dX11_year_70 : decode cX11_year 70 = .ok (.bipush 16, 2) := by decide +kernel
theorem dX11_year_72 : decode cX11_year 72 = .ok (.iload_n 2, 1) := by decide +kernel
theorem dX11_year_73 : decode cX11_year 73 = .ok (.iadd, 1) := by decide +kernel
theorem dX11_year_74 : decode cX11_year 74 = .ok (.iaload, 1) := by decide +kernel
theorem dX11_year_75 : decode cX11_year 75 = .ok (.goto 4, 3) := by decide +kernel
theorem dX11_year_78 : decode cX11_year 78 = .ok (.iconst 0, 1) := by decide +kernel
theorem dX11_year_79 : decode cX11_year 79 = .ok (.iadd, 1) := by decide +kernel
theorem dX11_year_80 : decode cX11_year 80 = .ok (.istore_n 1, 1) := by decide +kernel
theorem dX11_year_81 : decode cX11_year 81 = .ok (.iinc 2 1, 3) := by decide +kernel
theorem dX11_year_84 : decode cX11_year 84 = .ok (.goto (-76), 3) := by decide +kernel
theorem dX11_year_87 : decode cX11_year 87 = .ok (.iload_n 1, 1) := by decide +kernel
theorem dX11_year_88 : decode cX11_year 88 = .ok (.ireturn, 1) := by decide +kernel
set_option maxRecDepth 20000 in
theorem ggX11_hauls_X11_isRaft : GoodIn wsX11_hauls wsX11_isRaft := goodIn_r _ [7, 8, 9, 10, 6, 11, 39, 40, 41, 42, 43, 44, 45, 46, 47, 48, 49, 50, 51, 52, 53, 54, 55, 56, 57, 58, 59, 60, 61, 62, 63, 64, 65, 66, 67, 68] (by decide +kernel) (by decide +kernel)
set_option maxRecDepth 20000 in
theorem gX11_hauls_X11_isRaft : GoodIn wsX11_hauls (wsV RX11 157 RX11 yX11_isRaft wsX11_isRaft) := goodIn_app (goodIn_of _ (by decide +kernel)) ggX11_hauls_X11_isRaft
set_option maxRecDepth 20000 in
theorem ggX11_hauls_X11_isAnchor : GoodIn wsX11_hauls wsX11_isAnchor := goodIn_r _ [15, 1, 9, 10, 6, 11, 39, 40, 41, 42, 43, 44, 45, 46, 47, 48, 49, 50, 51, 52, 53, 54, 55, 56, 57, 58, 59, 60, 61, 62, 63, 64, 65, 66, 67, 68] (by decide +kernel) (by decide +kernel)
set_option maxRecDepth 20000 in
theorem gX11_hauls_X11_isAnchor : GoodIn wsX11_hauls (wsV RX11 166 RX11 yX11_isAnchor wsX11_isAnchor) := goodIn_app (goodIn_of _ (by decide +kernel)) ggX11_hauls_X11_isAnchor
set_option maxRecDepth 20000 in
theorem ggX11_hauls_X11_isLying : GoodIn wsX11_hauls wsX11_isLying := goodIn_r _ [19, 2, 39, 40, 41, 42, 43, 44, 45, 46, 47, 48, 49, 50, 51, 52, 53, 54, 55, 56, 57, 58, 59, 60, 61, 62, 63, 64, 65, 66, 67, 68] (by decide +kernel) (by decide +kernel)
set_option maxRecDepth 20000 in
theorem gX11_hauls_X11_isLying : GoodIn wsX11_hauls (wsV RX11 137 RX11 yX11_isLying wsX11_isLying) := goodIn_app (goodIn_of _ (by decide +kernel)) ggX11_hauls_X11_isLying
set_option maxRecDepth 20000 in
theorem ggX11_hauls_X11_whose : GoodIn wsX11_hauls wsX11_whose := goodIn_r _ [23, 24, 2, 25, 26, 6, 27, 39, 40, 41, 42, 43, 44, 45, 46, 47, 48, 49, 50, 51, 52, 53, 54, 55, 56, 57, 58, 59, 60, 61, 62, 63, 64, 65, 66, 67, 68] (by decide +kernel) (by decide +kernel)
set_option maxRecDepth 20000 in
theorem gX11_hauls_X11_whose : GoodIn wsX11_hauls (wsV RX11 148 RX11 yX11_whose wsX11_whose) := goodIn_app (goodIn_of _ (by decide +kernel)) ggX11_hauls_X11_whose
set_option maxRecDepth 20000 in
theorem ggX11_hauls_X11_know : GoodIn wsX11_hauls wsX11_know := goodIn_r _ [31, 32, 33, 2, 39, 40, 41, 42, 43, 44, 45, 46, 47, 48, 49, 50, 51, 52, 53, 54, 55, 56, 57, 58, 59, 60, 61, 62, 63, 64, 65, 66, 67, 68] (by decide +kernel) (by decide +kernel)
set_option maxRecDepth 20000 in
theorem gX11_hauls_X11_know : GoodIn wsX11_hauls (wsV RX11 178 RX11 yX11_know wsX11_know) := goodIn_app (goodIn_of _ (by decide +kernel)) ggX11_hauls_X11_know
set_option maxRecDepth 20000 in
theorem ggX11_hauls_X11_leftOf : GoodIn wsX11_hauls wsX11_leftOf := goodIn_r _ [37, 38, 2, 39, 40, 41, 42, 43, 44, 45, 46, 47, 48, 49, 50, 51, 52, 53, 54, 55, 56, 57, 58, 59, 60, 61, 62, 63, 64, 65, 66, 67, 68] (by decide +kernel) (by decide +kernel)
set_option maxRecDepth 20000 in
theorem gX11_hauls_X11_leftOf : GoodIn wsX11_hauls (wsV RX11 151 RX11 yX11_leftOf wsX11_leftOf) := goodIn_app (goodIn_of _ (by decide +kernel)) ggX11_hauls_X11_leftOf
theorem dX11_hauls_0 : decode cX11_hauls 0 = .ok (.aload_n 0, 1) := by decide +kernel
theorem dX11_hauls_1 : decode cX11_hauls 1 = .ok (.iload_n 1, 1) := by decide +kernel
theorem dX11_hauls_2 : decode cX11_hauls 2 = .ok (.invokevirtual 157, 3) := by decide +kernel
theorem dX11_hauls_5 : decode cX11_hauls 5 = .ok (.ifCond .eq 11, 3) := by decide +kernel
theorem dX11_hauls_8 : decode cX11_hauls 8 = .ok (.aload_n 0, 1) := by decide +kernel
theorem dX11_hauls_9 : decode cX11_hauls 9 = .ok (.iload_n 2, 1) := by decide +kernel
theorem dX11_hauls_10 : decode cX11_hauls 10 = .ok (.invokevirtual 166, 3) := by decide +kernel
theorem dX11_hauls_13 : decode cX11_hauls 13 = .ok (.ifCond .ne 5, 3) := by decide +kernel
theorem dX11_hauls_16 : decode cX11_hauls 16 = .ok (.iconst (-1), 1) := by decide +kernel
theorem dX11_hauls_17 : decode cX11_hauls 17 = .ok (.ireturn, 1) := by decide +kernel
theorem dX11_hauls_18 : decode cX11_hauls 18 = .ok (.aload_n 0, 1) := by decide +kernel
theorem dX11_hauls_19 : decode cX11_hauls 19 = .ok (.iload_n 2, 1) := by decide +kernel
theorem dX11_hauls_20 : decode cX11_hauls 20 = .ok (.invokevirtual 137, 3) := by decide +kernel
theorem dX11_hauls_23 : decode cX11_hauls 23 = .ok (.ifCond .eq 16, 3) := by decide +kernel
theorem dX11_hauls_26 : decode cX11_hauls 26 = .ok (.aload_n 0, 1) := by decide +kernel
theorem dX11_hauls_27 : decode cX11_hauls 27 = .ok (.iload_n 2, 1) := by decide +kernel
theorem dX11_hauls_28 : decode cX11_hauls 28 = .ok (.invokevirtual 148, 3) := by decide +kernel
theorem dX11_hauls_31 : decode cX11_hauls 31 = .ok (.iload_n 1, 1) := by decide +kernel
theorem dX11_hauls_32 : decode cX11_hauls 32 = .ok (.if_icmp .ne 7, 3) := by decide +kernel
theorem dX11_hauls_35 : decode cX11_hauls 35 = .ok (.iconst 1, 1) := by decide +kernel
theorem dX11_hauls_36 : decode cX11_hauls 36 = .ok (.goto 4, 3) := by decide +kernel
theorem dX11_hauls_39 : decode cX11_hauls 39 = .ok (.iconst 0, 1) := by decide +kernel
theorem dX11_hauls_40 : decode cX11_hauls 40 = .ok (.istore_n 3, 1) := by decide +kernel
theorem dX11_hauls_41 : decode cX11_hauls 41 = .ok (.iconst 0, 1) := by decide +kernel
theorem dX11_hauls_42 : decode cX11_hauls 42 = .ok (.istore 4, 2) := by decide +kernel
theorem dX11_hauls_44 : decode cX11_hauls 44 = .ok (.iload 4, 2) := by decide +kernel
theorem dX11_hauls_46 : decode cX11_hauls 46 = .ok (.aload_n 0, 1) := by decide +kernel
theorem dX11_hauls_47 : decode cX11_hauls 47 = .ok (.getfield 29, 3) := by decide +kernel
theorem dX11_hauls_50 : decode cX11_hauls 50 = .ok (.iconst 0, 1) := by decide +kernel
theorem dX11_hauls_51 : decode cX11_hauls 51 = .ok (.iaload, 1) := by decide +kernel
theorem dX11_hauls_52 : decode cX11_hauls 52 = .ok (.if_icmp .ge 81, 3) := by decide +kernel
theorem dX11_hauls_55 : decode cX11_hauls 55 = .ok (.aload_n 0, 1) := by decide +kernel
theorem dX11_hauls_56 : decode cX11_hauls 56 = .ok (.iload 4, 2) := by decide +kernel
theorem dX11_hauls_58 : decode cX11_hauls 58 = .ok (.invokevirtual 137, 3) := by decide +kernel
theorem dX11_hauls_61 : decode cX11_hauls 61 = .ok (.ifCond .eq 27, 3) := by decide +kernel
theorem dX11_hauls_64 : decode cX11_hauls 64 = .ok (.aload_n 0, 1) := by decide +kernel
theorem dX11_hauls_65 : decode cX11_hauls 65 = .ok (.getfield 47, 3) := by decide +kernel
theorem dX11_hauls_68 : decode cX11_hauls 68 = .ok (.iconst 0, 1) := by decide +kernel
theorem dX11_hauls_69 : decode cX11_hauls 69 = .ok (.iload 4, 2) := by decide +kernel
theorem dX11_hauls_71 : decode cX11_hauls 71 = .ok (.iadd, 1) := by decide +kernel
theorem dX11_hauls_72 : decode cX11_hauls 72 = .ok (.iaload, 1) := by decide +kernel
theorem dX11_hauls_73 : decode cX11_hauls 73 = .ok (.aload_n 0, 1) := by decide +kernel
theorem dX11_hauls_74 : decode cX11_hauls 74 = .ok (.getfield 47, 3) := by decide +kernel
theorem dX11_hauls_77 : decode cX11_hauls 77 = .ok (.iconst 0, 1) := by decide +kernel
theorem dX11_hauls_78 : decode cX11_hauls 78 = .ok (.iload_n 2, 1) := by decide +kernel
theorem dX11_hauls_79 : decode cX11_hauls 79 = .ok (.iadd, 1) := by decide +kernel
theorem dX11_hauls_80 : decode cX11_hauls 80 = .ok (.iaload, 1) := by decide +kernel
theorem dX11_hauls_81 : decode cX11_hauls 81 = .ok (.if_icmp .ne 7, 3) := by decide +kernel
theorem dX11_hauls_84 : decode cX11_hauls 84 = .ok (.iconst 1, 1) := by decide +kernel
theorem dX11_hauls_85 : decode cX11_hauls 85 = .ok (.goto 4, 3) := by decide +kernel
theorem dX11_hauls_88 : decode cX11_hauls 88 = .ok (.iconst 0, 1) := by decide +kernel
theorem dX11_hauls_89 : decode cX11_hauls 89 = .ok (.istore 5, 2) := by decide +kernel
theorem dX11_hauls_91 : decode cX11_hauls 91 = .ok (.iload_n 3, 1) := by decide +kernel
theorem dX11_hauls_92 : decode cX11_hauls 92 = .ok (.ifCond .eq 33, 3) := by decide +kernel
theorem dX11_hauls_95 : decode cX11_hauls 95 = .ok (.iload 5, 2) := by decide +kernel
theorem dX11_hauls_97 : decode cX11_hauls 97 = .ok (.ifCond .eq 24, 3) := by decide +kernel
theorem dX11_hauls_100 : decode cX11_hauls 100 = .ok (.aload_n 0, 1) := by decide +kernel
theorem dX11_hauls_101 : decode cX11_hauls 101 = .ok (.iload 4, 2) := by decide +kernel
theorem dX11_hauls_103 : decode cX11_hauls 103 = .ok (.invokevirtual 148, 3) := by decide +kernel
theorem dX11_hauls_106 : decode cX11_hauls 106 = .ok (.iload_n 1, 1) := by decide +kernel
theorem dX11_hauls_107 : decode cX11_hauls 107 = .ok (.if_icmp .eq 14, 3) := by decide +kernel
theorem dX11_hauls_110 : decode cX11_hauls 110 = .ok (.aload_n 0, 1) := by decide +kernel
theorem dX11_hauls_111 : decode cX11_hauls 111 = .ok (.iload 4, 2) := by decide +kernel
theorem dX11_hauls_113 : decode cX11_hauls 113 = .ok (.invokevirtual 148, 3) := by decide +kernel
theorem dX11_hauls_116 : decode cX11_hauls 116 = .ok (.bipush (-9), 2) := by decide +kernel
theorem dX11_hauls_118 : decode cX11_hauls 118 = .ok (.if_icmp .ne 7, 3) := by decide +kernel
theorem dX11_hauls_121 : decode cX11_hauls 121 = .ok (.iconst 1, 1) := by decide +kernel
theorem dX11_hauls_122 : decode cX11_hauls 122 = .ok (.goto 4, 3) := by decide +kernel
theorem dX11_hauls_125 : decode cX11_hauls 125 = .ok (.iconst 0, 1) := by decide +kernel
theorem dX11_hauls_126 : decode cX11_hauls 126 = .ok (.istore_n 3, 1) := by decide +kernel
theorem dX11_hauls_127 : decode cX11_hauls 127 = .ok (.iinc 4 1, 3) := by decide +kernel
theorem dX11_hauls_130 : decode cX11_hauls 130 = .ok (.goto (-86), 3) := by decide +kernel
theorem dX11_hauls_133 : decode cX11_hauls 133 = .ok (.iload_n 3, 1) := by decide +kernel
theorem dX11_hauls_134 : decode cX11_hauls 134 = .ok (.ifCond .ne 6, 3) := by decide +kernel
theorem dX11_hauls_137 : decode cX11_hauls 137 = .ok (.bipush (-2), 2) := by decide +kernel
theorem dX11_hauls_139 : decode cX11_hauls 139 = .ok (.ireturn, 1) := by decide +kernel
theorem dX11_hauls_140 : decode cX11_hauls 140 = .ok (.aload_n 0, 1) := by decide +kernel
theorem dX11_hauls_141 : decode cX11_hauls 141 = .ok (.invokevirtual 178, 3) := by decide +kernel
theorem dX11_hauls_144 : decode cX11_hauls 144 = .ok (.aload_n 0, 1) := by decide +kernel
theorem dX11_hauls_145 : decode cX11_hauls 145 = .ok (.getfield 47, 3) := by decide +kernel
theorem dX11_hauls_148 : decode cX11_hauls 148 = .ok (.bipush 24, 2) := by decide +kernel
theorem dX11_hauls_150 : decode cX11_hauls 150 = .ok (.iload_n 2, 1) := by decide +kernel
theorem dX11_hauls_151 : decode cX11_hauls 151 = .ok (.iadd, 1) := by decide +kernel
theorem dX11_hauls_152 : decode cX11_hauls 152 = .ok (.iconst 1, 1) := by decide +kernel
theorem dX11_hauls_153 : decode cX11_hauls 153 = .ok (.iastore, 1) := by decide +kernel
theorem dX11_hauls_154 : decode cX11_hauls 154 = .ok (.aload_n 0, 1) := by decide +kernel
theorem dX11_hauls_155 : decode cX11_hauls 155 = .ok (.getfield 47, 3) := by decide +kernel
theorem dX11_hauls_158 : decode cX11_hauls 158 = .ok (.bipush 39, 2) := by decide +kernel
theorem dX11_hauls_160 : decode cX11_hauls 160 = .ok (.iload_n 1, 1) := by decide +kernel
theorem dX11_hauls_161 : decode cX11_hauls 161 = .ok (.iadd, 1) := by decide +kernel
theorem dX11_hauls_162 : decode cX11_hauls 162 = .ok (.iaload, 1) := by decide +kernel
theorem dX11_hauls_163 : decode cX11_hauls 163 = .ok (.aload_n 0, 1) := by decide +kernel
theorem dX11_hauls_164 : decode cX11_hauls 164 = .ok (.iload_n 2, 1) := by decide +kernel
theorem dX11_hauls_165 : decode cX11_hauls 165 = .ok (.invokevirtual 151, 3) := by decide +kernel
theorem dX11_hauls_168 : decode cX11_hauls 168 = .ok (.iadd, 1) := by decide +kernel
theorem dX11_hauls_169 : decode cX11_hauls 169 = .ok (.istore 4, 2) := by decide +kernel
theorem dX11_hauls_171 : decode cX11_hauls 171 = .ok (.aload_n 0, 1) := by decide +kernel
theorem dX11_hauls_172 : decode cX11_hauls 172 = .ok (.getfield 47, 3) := by decide +kernel
theorem dX11_hauls_175 : decode cX11_hauls 175 = .ok (.bipush 39, 2) := by decide +kernel
theorem dX11_hauls_177 : decode cX11_hauls 177 = .ok (.iload_n 1, 1) := by decide +kernel
theorem dX11_hauls_178 : decode cX11_hauls 178 = .ok (.iadd, 1) := by decide +kernel
theorem dX11_hauls_179 : decode cX11_hauls 179 = .ok (.iload 4, 2) := by decide +kernel
theorem dX11_hauls_181 : decode cX11_hauls 181 = .ok (.sipush 9999, 3) := by decide +kernel
theorem dX11_hauls_184 : decode cX11_hauls 184 = .ok (.if_icmp .le 9, 3) := by decide +kernel
theorem dX11_hauls_187 : decode cX11_hauls 187 = .ok (.sipush 9999, 3) := by decide +kernel
theorem dX11_hauls_190 : decode cX11_hauls 190 = .ok (.goto 5, 3) := by decide +kernel
theorem dX11_hauls_193 : decode cX11_hauls 193 = .ok (.iload 4, 2) := by decide +kernel
theorem dX11_hauls_195 : decode cX11_hauls 195 = .ok (.iastore, 1) := by decide +kernel
theorem dX11_hauls_196 : decode cX11_hauls 196 = .ok (.aload_n 0, 1) := by decide +kernel
theorem dX11_hauls_197 : decode cX11_hauls 197 = .ok (.getfield 47, 3) := by decide +kernel
theorem dX11_hauls_200 : decode cX11_hauls 200 = .ok (.bipush 39, 2) := by decide +kernel
theorem dX11_hauls_202 : decode cX11_hauls 202 = .ok (.iload_n 1, 1) := by decide +kernel
theorem dX11_hauls_203 : decode cX11_hauls 203 = .ok (.iadd, 1) := by decide +kernel
theorem dX11_hauls_204 : decode cX11_hauls 204 = .ok (.iaload, 1) := by decide +kernel
theorem dX11_hauls_205 : decode cX11_hauls 205 = .ok (.ireturn, 1) := by decide +kernel
theorem dX11_undo_0 : decode cX11_undo 0 = .ok (.aload_n 0, 1) := by decide +kernel
theorem dX11_undo_1 : decode cX11_undo 1 = .ok (.getfield 50, 3) := by decide +kernel
theorem dX11_undo_4 : decode cX11_undo 4 = .ok (.iconst 0, 1) := by decide +kernel
theorem dX11_undo_5 : decode cX11_undo 5 = .ok (.iaload, 1) := by decide +kernel
theorem dX11_undo_6 : decode cX11_undo 6 = .ok (.ifCond .ne 6, 3) := by decide +kernel
theorem dX11_undo_9 : decode cX11_undo 9 = .ok (.bipush (-2), 2) := by decide +kernel
theorem dX11_undo_11 : decode cX11_undo 11 = .ok (.ireturn, 1) := by decide +kernel
theorem dX11_undo_12 : decode cX11_undo 12 = .ok (.aload_n 0, 1) := by decide +kernel
theorem dX11_undo_13 : decode cX11_undo 13 = .ok (.getfield 50, 3) := by decide +kernel
theorem dX11_undo_16 : decode cX11_undo 16 = .ok (.iconst 0, 1) := by decide +kernel
theorem dX11_undo_17 : decode cX11_undo 17 = .ok (.dup2, 1) := by decide +kernel
theorem dX11_undo_18 : decode cX11_undo 18 = .ok (.iaload, 1) := by decide +kernel
theorem dX11_undo_19 : decode cX11_undo 19 = .ok (.iconst 1, 1) := by decide +kernel
theorem dX11_undo_20 : decode cX11_undo 20 = .ok (.isub, 1) := by decide +kernel
theorem dX11_undo_21 : decode cX11_undo 21 = .ok (.iastore, 1) := by decide +kernel
theorem dX11_undo_22 : decode cX11_undo 22 = .ok (.iconst 0, 1) := by decide +kernel
theorem dX11_undo_23 : decode cX11_undo 23 = .ok (.istore_n 1, 1) := by decide +kernel
theorem dX11_undo_24 : decode cX11_undo 24 = .ok (.iload_n 1, 1) := by decide +kernel
theorem dX11_undo_25 : decode cX11_undo 25 = .ok (.bipush 45, 2) := by decide +kernel
theorem dX11_undo_27 : decode cX11_undo 27 = .ok (.if_icmp .ge 31, 3) := by decide +kernel
theorem dX11_undo_30 : decode cX11_undo 30 = .ok (.aload_n 0, 1) := by decide +kernel
theorem dX11_undo_31 : decode cX11_undo 31 = .ok (.getfield 47, 3) := by decide +kernel
theorem dX11_undo_34 : decode cX11_undo 34 = .ok (.iload_n 1, 1) := by decide +kernel
theorem dX11_undo_35 : decode cX11_undo 35 = .ok (.aload_n 0, 1) := by decide +kernel
theorem dX11_undo_36 : decode cX11_undo 36 = .ok (.getfield 53, 3) := by decide +kernel
theorem dX11_undo_39 : decode cX11_undo 39 = .ok (.bipush 45, 2) := by decide +kernel
theorem dX11_undo_41 : decode cX11_undo 41 = .ok (.aload_n 0, 1) := by decide +kernel
theorem dX11_undo_42 : decode cX11_undo 42 = .ok (.getfield 50, 3) := by decide +kernel
theorem dX11_undo_45 : decode cX11_undo 45 = .ok (.iconst 0, 1) := by decide +kernel
theorem dX11_undo_46 : decode cX11_undo 46 = .ok (.iaload, 1) := by decide +kernel
theorem dX11_undo_47 : decode cX11_undo 47 = .ok (.imul, 1) := by decide +kernel
theorem dX11_undo_48 : decode cX11_undo 48 = .ok (.iload_n 1, 1) := by decide +kernel
theorem dX11_undo_49 : decode cX11_undo 49 = .ok (.iadd, 1) := by decide +kernel
theorem dX11_undo_50 : decode cX11_undo 50 = .ok (.iaload, 1) := by decide +kernel
theorem dX11_undo_51 : decode cX11_undo 51 = .ok (.iastore, 1) := by decide +kernel
theorem dX11_undo_52 : decode cX11_undo 52 = .ok (.iinc 1 1, 3) := by decide +kernel
theorem dX11_undo_55 : decode cX11_undo 55 = .ok (.goto (-31), 3) := by decide +kernel
theorem dX11_undo_58 : decode cX11_undo 58 = .ok (.aload_n 0, 1) := by decide +kernel
theorem dX11_undo_59 : decode cX11_undo 59 = .ok (.getfield 50, 3) := by decide +kernel
theorem dX11_undo_62 : decode cX11_undo 62 = .ok (.iconst 0, 1) := by decide +kernel
theorem dX11_undo_63 : decode cX11_undo 63 = .ok (.iaload, 1) := by decide +kernel
theorem dX11_undo_64 : decode cX11_undo 64 = .ok (.ireturn, 1) := by decide +kernel
set_option maxRecDepth 20000 in
theorem ggX11_now_X11_those : GoodIn wsX11_now wsX11_those := goodIn_r _ [7, 8, 1, 9, 10, 11, 12, 13, 14, 15, 16, 17, 18, 19, 20, 21, 22, 23, 24, 25, 26, 27, 28, 29, 30, 31, 32, 33, 34, 35, 36, 37, 38] (by decide +kernel) (by decide +kernel)
set_option maxRecDepth 20000 in
theorem gX11_now_X11_those : GoodIn wsX11_now (wsV RX11 187 RX11 yX11_those wsX11_those) := goodIn_app (goodIn_of _ (by decide +kernel)) ggX11_now_X11_those
theorem dX11_now_0 : decode cX11_now 0 = .ok (.iconst 0, 1) := by decide +kernel
theorem dX11_now_1 : decode cX11_now 1 = .ok (.istore_n 2, 1) := by decide +kernel
theorem dX11_now_2 : decode cX11_now 2 = .ok (.iload_n 1, 1) := by decide +kernel
theorem dX11_now_3 : decode cX11_now 3 = .ok (.tableswitch 79 0 4 #[33, 33, 33, 39, 47], 33) := by decide +kernel
theorem dX11_now_36 : decode cX11_now 36 = .ok (.aload_n 0, 1) := by decide +kernel
theorem dX11_now_37 : decode cX11_now 37 = .ok (.iload_n 1, 1) := by decide +kernel
theorem dX11_now_38 : decode cX11_now 38 = .ok (.invokevirtual 187, 3) := by decide +kernel
theorem dX11_now_41 : decode cX11_now 41 = .ok (.ireturn, 1) := by decide +kernel
theorem dX11_now_42 : decode cX11_now 42 = .ok (.aload_n 0, 1) := by decide +kernel
theorem dX11_now_43 : decode cX11_now 43 = .ok (.getfield 47, 3) := by decide +kernel
theorem dX11_now_46 : decode cX11_now 46 = .ok (.bipush 32, 2) := by decide +kernel
theorem dX11_now_48 : decode cX11_now 48 = .ok (.iaload, 1) := by decide +kernel
theorem dX11_now_49 : decode cX11_now 49 = .ok (.ireturn, 1) := by decide +kernel
theorem dX11_now_50 : decode cX11_now 50 = .ok (.iconst 0, 1) := by decide +kernel
theorem dX11_now_51 : decode cX11_now 51 = .ok (.istore_n 3, 1) := by decide +kernel
theorem dX11_now_52 : decode cX11_now 52 = .ok (.iload_n 3, 1) := by decide +kernel
theorem dX11_now_53 : decode cX11_now 53 = .ok (.aload_n 0, 1) := by decide +kernel
theorem dX11_now_54 : decode cX11_now 54 = .ok (.getfield 20, 3) := by decide +kernel
theorem dX11_now_57 : decode cX11_now 57 = .ok (.iconst 0, 1) := by decide +kernel
theorem dX11_now_58 : decode cX11_now 58 = .ok (.iaload, 1) := by decide +kernel
theorem dX11_now_59 : decode cX11_now 59 = .ok (.if_icmp .ge 21, 3) := by decide +kernel
theorem dX11_now_62 : decode cX11_now 62 = .ok (.iload_n 2, 1) := by decide +kernel
theorem dX11_now_63 : decode cX11_now 63 = .ok (.aload_n 0, 1) := by decide +kernel
theorem dX11_now_64 : decode cX11_now 64 = .ok (.getfield 47, 3) := by decide +kernel
theorem dX11_now_67 : decode cX11_now 67 = .ok (.bipush 39, 2) := by decide +kernel
theorem dX11_now_69 : decode cX11_now 69 = .ok (.iload_n 3, 1) := by decide +kernel
theorem dX11_now_70 : decode cX11_now 70 = .ok (.iadd, 1) := by decide +kernel
theorem dX11_now_71 : decode cX11_now 71 = .ok (.iaload, 1) := by decide +kernel
theorem dX11_now_72 : decode cX11_now 72 = .ok (.iadd, 1) := by decide +kernel
theorem dX11_now_73 : decode cX11_now 73 = .ok (.istore_n 2, 1) := by decide +kernel
theorem dX11_now_74 : decode cX11_now 74 = .ok (.iinc 3 1, 3) := by decide +kernel
theorem dX11_now_77 : decode cX11_now 77 = .ok (.goto (-25), 3) := by decide +kernel
theorem dX11_now_80 : decode cX11_now 80 = .ok (.iload_n 2, 1) := by decide +kernel
theorem dX11_now_81 : decode cX11_now 81 = .ok (.ireturn, 1) := by decide +kernel
theorem dX11_now_82 : decode cX11_now 82 = .ok (.iconst (-1), 1) := by decide +kernel
theorem dX11_now_83 : decode cX11_now 83 = .ok (.ireturn, 1) := by decide +kernel
set_option maxRecDepth 20000 in
theorem ggX11_needs_X11_isAnchor : GoodIn wsX11_needs wsX11_isAnchor := goodIn_r _ [9, 10, 11, 12, 8, 13, 21, 22, 23, 24, 25, 26, 27, 28, 29, 30, 31, 32, 33, 34, 35, 36, 37, 38, 39, 40, 41, 42, 43, 44, 45, 46, 47, 48, 49, 50] (by decide +kernel) (by decide +kernel)
set_option maxRecDepth 20000 in
theorem gX11_needs_X11_isAnchor : GoodIn wsX11_needs (wsV RX11 166 RX11 yX11_isAnchor wsX11_isAnchor) := goodIn_app (goodIn_of _ (by decide +kernel)) ggX11_needs_X11_isAnchor
set_option maxRecDepth 20000 in
theorem ggX11_needs_X11_isStorm : GoodIn wsX11_needs wsX11_isStorm := goodIn_r _ [16, 11, 12, 8, 13] (by decide +kernel) (by decide +kernel)
set_option maxRecDepth 20000 in
theorem gX11_needs_X11_isStorm : GoodIn wsX11_needs (va_wsS RX11 172 yX11_isStorm wsX11_isStorm) := goodIn_app (goodIn_of _ (by decide +kernel)) ggX11_needs_X11_isStorm
set_option maxRecDepth 20000 in
theorem ggX11_needs_X11_isLying : GoodIn wsX11_needs wsX11_isLying := goodIn_r _ [20, 1, 21, 22, 23, 24, 25, 26, 27, 28, 29, 30, 31, 32, 33, 34, 35, 36, 37, 38, 39, 40, 41, 42, 43, 44, 45, 46, 47, 48, 49, 50] (by decide +kernel) (by decide +kernel)
set_option maxRecDepth 20000 in
theorem gX11_needs_X11_isLying : GoodIn wsX11_needs (wsV RX11 137 RX11 yX11_isLying wsX11_isLying) := goodIn_app (goodIn_of _ (by decide +kernel)) ggX11_needs_X11_isLying
theorem dX11_needs_0 : decode cX11_needs 0 = .ok (.aload_n 0, 1) := by decide +kernel
theorem dX11_needs_1 : decode cX11_needs 1 = .ok (.iload_n 1, 1) := by decide +kernel
theorem dX11_needs_2 : decode cX11_needs 2 = .ok (.invokevirtual 166, 3) := by decide +kernel
theorem dX11_needs_5 : decode cX11_needs 5 = .ok (.ifCond .eq 10, 3) := by decide +kernel
theorem dX11_needs_8 : decode cX11_needs 8 = .ok (.iload_n 2, 1) := by decide +kernel
theorem dX11_needs_9 : decode cX11_needs 9 = .ok (.invokestatic 172, 3) := by decide +kernel
theorem dX11_needs_12 : decode cX11_needs 12 = .ok (.ifCond .ne 5, 3) := by decide +kernel
theorem dX11_needs_15 : decode cX11_needs 15 = .ok (.iconst (-1), 1) := by decide +kernel
theorem dX11_needs_16 : decode cX11_needs 16 = .ok (.ireturn, 1) := by decide +kernel
theorem dX11_needs_17 : decode cX11_needs 17 = .ok (.aload_n 0, 1) := by decide +kernel
theorem dX11_needs_18 : decode cX11_needs 18 = .ok (.iload_n 1, 1) := by decide +kernel
theorem dX11_needs_19 : decode cX11_needs 19 = .ok (.invokevirtual 137, 3) := by decide +kernel
theorem dX11_needs_22 : decode cX11_needs 22 = .ok (.ifCond .ne 6, 3) := by decide +kernel
theorem dX11_needs_25 : decode cX11_needs 25 = .ok (.bipush (-2), 2) := by decide +kernel
theorem dX11_needs_27 : decode cX11_needs 27 = .ok (.ireturn, 1) := by decide +kernel
theorem dX11_needs_28 : decode cX11_needs 28 = .ok (.aload_n 0, 1) := by decide +kernel
theorem dX11_needs_29 : decode cX11_needs 29 = .ok (.getfield 47, 3) := by decide +kernel
theorem dX11_needs_32 : decode cX11_needs 32 = .ok (.iconst 0, 1) := by decide +kernel
theorem dX11_needs_33 : decode cX11_needs 33 = .ok (.iload_n 1, 1) := by decide +kernel
theorem dX11_needs_34 : decode cX11_needs 34 = .ok (.iadd, 1) := by decide +kernel
theorem dX11_needs_35 : decode cX11_needs 35 = .ok (.iaload, 1) := by decide +kernel
theorem dX11_needs_36 : decode cX11_needs 36 = .ok (.istore_n 3, 1) := by decide +kernel
theorem dX11_needs_37 : decode cX11_needs 37 = .ok (.iconst 1, 1) := by decide +kernel
theorem dX11_needs_38 : decode cX11_needs 38 = .ok (.istore 4, 2) := by decide +kernel
theorem dX11_needs_40 : decode cX11_needs 40 = .ok (.iload 4, 2) := by decide +kernel
theorem dX11_needs_42 : decode cX11_needs 42 = .ok (.bipush 60, 2) := by decide +kernel
theorem dX11_needs_44 : decode cX11_needs 44 = .ok (.if_icmp .gt 41, 3) := by decide +kernel
theorem dX11_needs_47 : decode cX11_needs 47 = .ok (.aload_n 0, 1) := by decide +kernel
theorem dX11_needs_48 : decode cX11_needs 48 = .ok (.getfield 38, 3) := by decide +kernel
theorem dX11_needs_51 : decode cX11_needs 51 = .ok (.iload_n 1, 1) := by decide +kernel
theorem dX11_needs_52 : decode cX11_needs 52 = .ok (.iaload, 1) := by decide +kernel
theorem dX11_needs_53 : decode cX11_needs 53 = .ok (.aload_n 0, 1) := by decide +kernel
theorem dX11_needs_54 : decode cX11_needs 54 = .ok (.getfield 17, 3) := by decide +kernel
theorem dX11_needs_57 : decode cX11_needs 57 = .ok (.iload_n 3, 1) := by decide +kernel
theorem dX11_needs_58 : decode cX11_needs 58 = .ok (.iaload, 1) := by decide +kernel
theorem dX11_needs_59 : decode cX11_needs 59 = .ok (.iconst 1, 1) := by decide +kernel
theorem dX11_needs_60 : decode cX11_needs 60 = .ok (.iadd, 1) := by decide +kernel
theorem dX11_needs_61 : decode cX11_needs 61 = .ok (.imul, 1) := by decide +kernel
theorem dX11_needs_62 : decode cX11_needs 62 = .ok (.iload 4, 2) := by decide +kernel
theorem dX11_needs_64 : decode cX11_needs 64 = .ok (.aload_n 0, 1) := by decide +kernel
theorem dX11_needs_65 : decode cX11_needs 65 = .ok (.getfield 13, 3) := by decide +kernel
theorem dX11_needs_68 : decode cX11_needs 68 = .ok (.iload_n 3, 1) := by decide +kernel
theorem dX11_needs_69 : decode cX11_needs 69 = .ok (.iaload, 1) := by decide +kernel
theorem dX11_needs_70 : decode cX11_needs 70 = .ok (.idiv, 1) := by decide +kernel
theorem dX11_needs_71 : decode cX11_needs 71 = .ok (.iadd, 1) := by decide +kernel
theorem dX11_needs_72 : decode cX11_needs 72 = .ok (.iload_n 2, 1) := by decide +kernel
theorem dX11_needs_73 : decode cX11_needs 73 = .ok (.if_icmp .lt 6, 3) := by decide +kernel
theorem dX11_needs_76 : decode cX11_needs 76 = .ok (.iload 4, 2) := by decide +kernel
theorem dX11_needs_78 : decode cX11_needs 78 = .ok (.ireturn, 1) := by decide +kernel
theorem dX11_needs_79 : decode cX11_needs 79 = .ok (.iinc 4 1, 3) := by decide +kernel
theorem dX11_needs_82 : decode cX11_needs 82 = .ok (.goto (-42), 3) := by decide +kernel
theorem dX11_needs_85 : decode cX11_needs 85 = .ok (.bipush (-9), 2) := by decide +kernel
theorem dX11_needs_87 : decode cX11_needs 87 = .ok (.ireturn, 1) := by decide +kernel
set_option maxRecDepth 20000 in
theorem ggX11_after_X11_isAnchor : GoodIn wsX11_after wsX11_isAnchor := goodIn_r _ [6, 7, 8, 9, 5, 10, 36, 37, 38, 39, 40, 41, 42, 43, 44, 45, 46, 47, 48, 49, 50, 51, 52, 53, 54, 55, 56, 57, 58, 59, 60, 61, 62, 63, 64, 65] (by decide +kernel) (by decide +kernel)
set_option maxRecDepth 20000 in
theorem gX11_after_X11_isAnchor : GoodIn wsX11_after (wsV RX11 166 RX11 yX11_isAnchor wsX11_isAnchor) := goodIn_app (goodIn_of _ (by decide +kernel)) ggX11_after_X11_isAnchor
set_option maxRecDepth 20000 in
theorem ggX11_after_X11_isStorm : GoodIn wsX11_after wsX11_isStorm := goodIn_r _ [13, 8, 9, 5, 10] (by decide +kernel) (by decide +kernel)
set_option maxRecDepth 20000 in
theorem gX11_after_X11_isStorm : GoodIn wsX11_after (va_wsS RX11 172 yX11_isStorm wsX11_isStorm) := goodIn_app (goodIn_of _ (by decide +kernel)) ggX11_after_X11_isStorm
set_option maxRecDepth 20000 in
theorem ggX11_after_X11_isSide : GoodIn wsX11_after wsX11_isSide := goodIn_r _ [16, 8, 9, 5, 10] (by decide +kernel) (by decide +kernel)
set_option maxRecDepth 20000 in
theorem gX11_after_X11_isSide : GoodIn wsX11_after (va_wsS RX11 175 yX11_isSide wsX11_isSide) := goodIn_app (goodIn_of _ (by decide +kernel)) ggX11_after_X11_isSide
set_option maxRecDepth 20000 in
theorem ggX11_after_X11_isLying : GoodIn wsX11_after wsX11_isLying := goodIn_r _ [20, 1, 36, 37, 38, 39, 40, 41, 42, 43, 44, 45, 46, 47, 48, 49, 50, 51, 52, 53, 54, 55, 56, 57, 58, 59, 60, 61, 62, 63, 64, 65] (by decide +kernel) (by decide +kernel)
set_option maxRecDepth 20000 in
theorem gX11_after_X11_isLying : GoodIn wsX11_after (wsV RX11 137 RX11 yX11_isLying wsX11_isLying) := goodIn_app (goodIn_of _ (by decide +kernel)) ggX11_after_X11_isLying
set_option maxRecDepth 20000 in
theorem ggX11_after_X11_hold : GoodIn wsX11_after wsX11_hold := goodIn_r _ [24, 7, 1, 17, 18, 19, 5, 20, 25, 26, 27, 28, 29, 30, 31, 32, 33, 34, 35, 36, 37, 38, 39, 40, 41, 42, 43, 44, 45, 46, 47, 48, 49, 50, 51, 52, 53, 54, 55, 56, 57, 58, 59, 60, 61, 62, 63, 64, 65] (by decide +kernel) (by decide +kernel)
set_option maxRecDepth 20000 in
theorem gX11_after_X11_hold : GoodIn wsX11_after (wsV RX11 169 RX11 yX11_hold wsX11_hold) := goodIn_app (goodIn_of _ (by decide +kernel)) ggX11_after_X11_hold
theorem dX11_after_0 : decode cX11_after 0 = .ok (.aload_n 0, 1) := by decide +kernel
theorem dX11_after_1 : decode cX11_after 1 = .ok (.iload_n 1, 1) := by decide +kernel
theorem dX11_after_2 : decode cX11_after 2 = .ok (.invokevirtual 166, 3) := by decide +kernel
theorem dX11_after_5 : decode cX11_after 5 = .ok (.ifCond .eq 17, 3) := by decide +kernel
theorem dX11_after_8 : decode cX11_after 8 = .ok (.iload_n 2, 1) := by decide +kernel
theorem dX11_after_9 : decode cX11_after 9 = .ok (.invokestatic 172, 3) := by decide +kernel
theorem dX11_after_12 : decode cX11_after 12 = .ok (.ifCond .eq 10, 3) := by decide +kernel
theorem dX11_after_15 : decode cX11_after 15 = .ok (.iload_n 3, 1) := by decide +kernel
theorem dX11_after_16 : decode cX11_after 16 = .ok (.invokestatic 175, 3) := by decide +kernel
theorem dX11_after_19 : decode cX11_after 19 = .ok (.ifCond .ne 5, 3) := by decide +kernel
theorem dX11_after_22 : decode cX11_after 22 = .ok (.iconst (-1), 1) := by decide +kernel
theorem dX11_after_23 : decode cX11_after 23 = .ok (.ireturn, 1) := by decide +kernel
theorem dX11_after_24 : decode cX11_after 24 = .ok (.aload_n 0, 1) := by decide +kernel
theorem dX11_after_25 : decode cX11_after 25 = .ok (.iload_n 1, 1) := by decide +kernel
theorem dX11_after_26 : decode cX11_after 26 = .ok (.invokevirtual 137, 3) := by decide +kernel
theorem dX11_after_29 : decode cX11_after 29 = .ok (.ifCond .ne 6, 3) := by decide +kernel
theorem dX11_after_32 : decode cX11_after 32 = .ok (.bipush (-9), 2) := by decide +kernel
theorem dX11_after_34 : decode cX11_after 34 = .ok (.ireturn, 1) := by decide +kernel
theorem dX11_after_35 : decode cX11_after 35 = .ok (.aload_n 0, 1) := by decide +kernel
theorem dX11_after_36 : decode cX11_after 36 = .ok (.getfield 47, 3) := by decide +kernel
theorem dX11_after_39 : decode cX11_after 39 = .ok (.iconst 0, 1) := by decide +kernel
theorem dX11_after_40 : decode cX11_after 40 = .ok (.iload_n 1, 1) := by decide +kernel
theorem dX11_after_41 : decode cX11_after 41 = .ok (.iadd, 1) := by decide +kernel
theorem dX11_after_42 : decode cX11_after 42 = .ok (.iaload, 1) := by decide +kernel
theorem dX11_after_43 : decode cX11_after 43 = .ok (.istore 4, 2) := by decide +kernel
theorem dX11_after_45 : decode cX11_after 45 = .ok (.aload_n 0, 1) := by decide +kernel
theorem dX11_after_46 : decode cX11_after 46 = .ok (.iload_n 1, 1) := by decide +kernel
theorem dX11_after_47 : decode cX11_after 47 = .ok (.invokevirtual 169, 3) := by decide +kernel
theorem dX11_after_50 : decode cX11_after 50 = .ok (.iload_n 2, 1) := by decide +kernel
theorem dX11_after_51 : decode cX11_after 51 = .ok (.if_icmp .lt 6, 3) := by decide +kernel
theorem dX11_after_54 : decode cX11_after 54 = .ok (.iload 4, 2) := by decide +kernel
theorem dX11_after_56 : decode cX11_after 56 = .ok (.ireturn, 1) := by decide +kernel
theorem dX11_after_57 : decode cX11_after 57 = .ok (.iload 4, 2) := by decide +kernel
theorem dX11_after_59 : decode cX11_after 59 = .ok (.iload_n 3, 1) := by decide +kernel
theorem dX11_after_60 : decode cX11_after 60 = .ok (.ifCond .ne 7, 3) := by decide +kernel
theorem dX11_after_63 : decode cX11_after 63 = .ok (.iconst 0, 1) := by decide +kernel
theorem dX11_after_64 : decode cX11_after 64 = .ok (.goto 5, 3) := by decide +kernel
theorem dX11_after_67 : decode cX11_after 67 = .ok (.bipush 9, 2) := by decide +kernel
theorem dX11_after_69 : decode cX11_after 69 = .ok (.if_icmp .ne 8, 3) := by decide +kernel
theorem dX11_after_72 : decode cX11_after 72 = .ok (.bipush (-9), 2) := by decide +kernel
theorem dX11_after_74 : decode cX11_after 74 = .ok (.goto 15, 3) := by decide +kernel
theorem dX11_after_77 : decode cX11_after 77 = .ok (.iload 4, 2) := by decide +kernel
theorem dX11_after_79 : decode cX11_after 79 = .ok (.iload_n 3, 1) := by decide +kernel
theorem dX11_after_80 : decode cX11_after 80 = .ok (.ifCond .ne 7, 3) := by decide +kernel
theorem dX11_after_83 : decode cX11_after 83 = .ok (.iconst (-1), 1) := by decide +kernel
theorem dX11_after_84 : decode cX11_after 84 = .ok (.goto 4, 3) := by decide +kernel
theorem dX11_after_87 : decode cX11_after 87 = .ok (.iconst 1, 1) := by decide +kernel
theorem dX11_after_88 : decode cX11_after 88 = .ok (.iadd, 1) := by decide +kernel
theorem dX11_after_89 : decode cX11_after 89 = .ok (.ireturn, 1) := by decide +kernel
set_option maxRecDepth 20000 in
theorem ggX11_wreck_X11_isStorm : GoodIn wsX11_wreck wsX11_isStorm := goodIn_r _ [6, 7, 8, 5, 9] (by decide +kernel) (by decide +kernel)
set_option maxRecDepth 20000 in
theorem gX11_wreck_X11_isStorm : GoodIn wsX11_wreck (va_wsS RX11 172 yX11_isStorm wsX11_isStorm) := goodIn_app (goodIn_of _ (by decide +kernel)) ggX11_wreck_X11_isStorm
set_option maxRecDepth 20000 in
theorem ggX11_wreck_X11_in : GoodIn wsX11_wreck wsX11_in := goodIn_r _ [9] (by decide +kernel) (by decide +kernel)
set_option maxRecDepth 20000 in
theorem gX11_wreck_X11_in : GoodIn wsX11_wreck (va_wsS RX11 75 yX11_in wsX11_in) := goodIn_app (goodIn_of _ (by decide +kernel)) ggX11_wreck_X11_in
set_option maxRecDepth 20000 in
theorem ggX11_wreck_X11_blow : GoodIn wsX11_wreck wsX11_blow := goodIn_r _ [13, 14, 2, 15, 16, 17, 5, 18, 19, 20, 21, 22, 23, 24, 25, 26, 27, 28, 29, 30, 31, 32, 33, 34, 35, 36, 37, 38, 39, 40, 41, 42, 43, 44, 45, 46, 47, 48, 49, 50, 51, 52, 53, 54, 55, 56, 57, 58, 59, 60, 61, 62, 63, 64, 65, 66] (by decide +kernel) (by decide +kernel)
set_option maxRecDepth 20000 in
theorem gX11_wreck_X11_blow : GoodIn wsX11_wreck (wsV RX11 181 RX11 yX11_blow wsX11_blow) := goodIn_app (goodIn_of _ (by decide +kernel)) ggX11_wreck_X11_blow
theorem dX11_wreck_0 : decode cX11_wreck 0 = .ok (.iload_n 1, 1) := by decide +kernel
theorem dX11_wreck_1 : decode cX11_wreck 1 = .ok (.invokestatic 172, 3) := by decide +kernel
theorem dX11_wreck_4 : decode cX11_wreck 4 = .ok (.ifCond .eq 21, 3) := by decide +kernel
theorem dX11_wreck_7 : decode cX11_wreck 7 = .ok (.iload_n 2, 1) := by decide +kernel
theorem dX11_wreck_8 : decode cX11_wreck 8 = .ok (.iconst 0, 1) := by decide +kernel
theorem dX11_wreck_9 : decode cX11_wreck 9 = .ok (.iconst 4, 1) := by decide +kernel
theorem dX11_wreck_10 : decode cX11_wreck 10 = .ok (.invokestatic 75, 3) := by decide +kernel
theorem dX11_wreck_13 : decode cX11_wreck 13 = .ok (.ifCond .eq 12, 3) := by decide +kernel
theorem dX11_wreck_16 : decode cX11_wreck 16 = .ok (.iload_n 3, 1) := by decide +kernel
theorem dX11_wreck_17 : decode cX11_wreck 17 = .ok (.iconst 0, 1) := by decide +kernel
theorem dX11_wreck_18 : decode cX11_wreck 18 = .ok (.iconst 1, 1) := by decide +kernel
theorem dX11_wreck_19 : decode cX11_wreck 19 = .ok (.invokestatic 75, 3) := by decide +kernel
theorem dX11_wreck_22 : decode cX11_wreck 22 = .ok (.ifCond .ne 5, 3) := by decide +kernel
theorem dX11_wreck_25 : decode cX11_wreck 25 = .ok (.iconst (-1), 1) := by decide +kernel
theorem dX11_wreck_26 : decode cX11_wreck 26 = .ok (.ireturn, 1) := by decide +kernel
theorem dX11_wreck_27 : decode cX11_wreck 27 = .ok (.iconst 0, 1) := by decide +kernel
theorem dX11_wreck_28 : decode cX11_wreck 28 = .ok (.istore 4, 2) := by decide +kernel
theorem dX11_wreck_30 : decode cX11_wreck 30 = .ok (.iload 4, 2) := by decide +kernel
theorem dX11_wreck_32 : decode cX11_wreck 32 = .ok (.bipush 45, 2) := by decide +kernel
theorem dX11_wreck_34 : decode cX11_wreck 34 = .ok (.if_icmp .ge 23, 3) := by decide +kernel
theorem dX11_wreck_37 : decode cX11_wreck 37 = .ok (.aload_n 0, 1) := by decide +kernel
theorem dX11_wreck_38 : decode cX11_wreck 38 = .ok (.getfield 63, 3) := by decide +kernel
theorem dX11_wreck_41 : decode cX11_wreck 41 = .ok (.iload 4, 2) := by decide +kernel
theorem dX11_wreck_43 : decode cX11_wreck 43 = .ok (.aload_n 0, 1) := by decide +kernel
theorem dX11_wreck_44 : decode cX11_wreck 44 = .ok (.getfield 47, 3) := by decide +kernel
theorem dX11_wreck_47 : decode cX11_wreck 47 = .ok (.iload 4, 2) := by decide +kernel
theorem dX11_wreck_49 : decode cX11_wreck 49 = .ok (.iaload, 1) := by decide +kernel
theorem dX11_wreck_50 : decode cX11_wreck 50 = .ok (.iastore, 1) := by decide +kernel
theorem dX11_wreck_51 : decode cX11_wreck 51 = .ok (.iinc 4 1, 3) := by decide +kernel
theorem dX11_wreck_54 : decode cX11_wreck 54 = .ok (.goto (-24), 3) := by decide +kernel
theorem dX11_wreck_57 : decode cX11_wreck 57 = .ok (.iconst (-1), 1) := by decide +kernel
theorem dX11_wreck_58 : decode cX11_wreck 58 = .ok (.istore 4, 2) := by decide +kernel
theorem dX11_wreck_60 : decode cX11_wreck 60 = .ok (.iconst 0, 1) := by decide +kernel
theorem dX11_wreck_61 : decode cX11_wreck 61 = .ok (.istore 5, 2) := by decide +kernel
theorem dX11_wreck_63 : decode cX11_wreck 63 = .ok (.iconst 0, 1) := by decide +kernel
theorem dX11_wreck_64 : decode cX11_wreck 64 = .ok (.istore 6, 2) := by decide +kernel
theorem dX11_wreck_66 : decode cX11_wreck 66 = .ok (.iload 6, 2) := by decide +kernel
theorem dX11_wreck_68 : decode cX11_wreck 68 = .ok (.iconst 1, 1) := by decide +kernel
theorem dX11_wreck_69 : decode cX11_wreck 69 = .ok (.iload_n 2, 1) := by decide +kernel
theorem dX11_wreck_70 : decode cX11_wreck 70 = .ok (.ishl, 1) := by decide +kernel
theorem dX11_wreck_71 : decode cX11_wreck 71 = .ok (.if_icmp .ge 110, 3) := by decide +kernel
theorem dX11_wreck_74 : decode cX11_wreck 74 = .ok (.iconst 0, 1) := by decide +kernel
theorem dX11_wreck_75 : decode cX11_wreck 75 = .ok (.istore 7, 2) := by decide +kernel
theorem dX11_wreck_77 : decode cX11_wreck 77 = .ok (.iconst 0, 1) := by decide +kernel
theorem dX11_wreck_78 : decode cX11_wreck 78 = .ok (.istore 8, 2) := by decide +kernel
theorem dX11_wreck_80 : decode cX11_wreck 80 = .ok (.iconst 0, 1) := by decide +kernel
theorem dX11_wreck_81 : decode cX11_wreck 81 = .ok (.istore 9, 2) := by decide +kernel
theorem dX11_wreck_83 : decode cX11_wreck 83 = .ok (.iload 9, 2) := by decide +kernel
theorem dX11_wreck_85 : decode cX11_wreck 85 = .ok (.iload_n 2, 1) := by decide +kernel
theorem dX11_wreck_86 : decode cX11_wreck 86 = .ok (.if_icmp .ge 44, 3) := by decide +kernel
theorem dX11_wreck_89 : decode cX11_wreck 89 = .ok (.iload 6, 2) := by decide +kernel
theorem dX11_wreck_91 : decode cX11_wreck 91 = .ok (.iload_n 2, 1) := by decide +kernel
theorem dX11_wreck_92 : decode cX11_wreck 92 = .ok (.iconst 1, 1) := by decide +kernel
theorem dX11_wreck_93 : decode cX11_wreck 93 = .ok (.isub, 1) := by decide +kernel
theorem dX11_wreck_94 : decode cX11_wreck 94 = .ok (.iload 9, 2) := by decide +kernel
theorem dX11_wreck_96 : decode cX11_wreck 96 = .ok (.isub, 1) := by decide +kernel
theorem dX11_wreck_97 : decode cX11_wreck 97 = .ok (.ishr, 1) := by decide +kernel
theorem dX11_wreck_98 : decode cX11_wreck 98 = .ok (.iconst 1, 1) := by decide +kernel
theorem dX11_wreck_99 : decode cX11_wreck 99 = .ok (.iand, 1) := by decide +kernel
theorem dX11_wreck_100 : decode cX11_wreck 100 = .ok (.istore 10, 2) := by decide +kernel
theorem dX11_wreck_102 : decode cX11_wreck 102 = .ok (.iload 8, 2) := by decide +kernel
theorem dX11_wreck_104 : decode cX11_wreck 104 = .ok (.iload 10, 2) := by decide +kernel
theorem dX11_wreck_106 : decode cX11_wreck 106 = .ok (.iload 9, 2) := by decide +kernel
theorem dX11_wreck_108 : decode cX11_wreck 108 = .ok (.ishl, 1) := by decide +kernel
theorem dX11_wreck_109 : decode cX11_wreck 109 = .ok (.ior, 1) := by decide +kernel
theorem dX11_wreck_110 : decode cX11_wreck 110 = .ok (.istore 8, 2) := by decide +kernel
theorem dX11_wreck_112 : decode cX11_wreck 112 = .ok (.iload 7, 2) := by decide +kernel
theorem dX11_wreck_114 : decode cX11_wreck 114 = .ok (.aload_n 0, 1) := by decide +kernel
theorem dX11_wreck_115 : decode cX11_wreck 115 = .ok (.iload_n 1, 1) := by decide +kernel
theorem dX11_wreck_116 : decode cX11_wreck 116 = .ok (.iload 10, 2) := by decide +kernel
theorem dX11_wreck_118 : decode cX11_wreck 118 = .ok (.invokevirtual 181, 3) := by decide +kernel
theorem dX11_wreck_121 : decode cX11_wreck 121 = .ok (.iadd, 1) := by decide +kernel
theorem dX11_wreck_122 : decode cX11_wreck 122 = .ok (.istore 7, 2) := by decide +kernel
theorem dX11_wreck_124 : decode cX11_wreck 124 = .ok (.iinc 9 1, 3) := by decide +kernel
theorem dX11_wreck_127 : decode cX11_wreck 127 = .ok (.goto (-44), 3) := by decide +kernel
theorem dX11_wreck_130 : decode cX11_wreck 130 = .ok (.iconst 0, 1) := by decide +kernel
theorem dX11_wreck_131 : decode cX11_wreck 131 = .ok (.istore 9, 2) := by decide +kernel
theorem dX11_wreck_133 : decode cX11_wreck 133 = .ok (.iload 9, 2) := by decide +kernel
theorem dX11_wreck_135 : decode cX11_wreck 135 = .ok (.bipush 45, 2) := by decide +kernel
theorem dX11_wreck_137 : decode cX11_wreck 137 = .ok (.if_icmp .ge 23, 3) := by decide +kernel
theorem dX11_wreck_140 : decode cX11_wreck 140 = .ok (.aload_n 0, 1) := by decide +kernel
theorem dX11_wreck_141 : decode cX11_wreck 141 = .ok (.getfield 47, 3) := by decide +kernel
theorem dX11_wreck_144 : decode cX11_wreck 144 = .ok (.iload 9, 2) := by decide +kernel
theorem dX11_wreck_146 : decode cX11_wreck 146 = .ok (.aload_n 0, 1) := by decide +kernel
theorem dX11_wreck_147 : decode cX11_wreck 147 = .ok (.getfield 63, 3) := by decide +kernel
theorem dX11_wreck_150 : decode cX11_wreck 150 = .ok (.iload 9, 2) := by decide +kernel
theorem dX11_wreck_152 : decode cX11_wreck 152 = .ok (.iaload, 1) := by decide +kernel
theorem dX11_wreck_153 : decode cX11_wreck 153 = .ok (.iastore, 1) := by decide +kernel
theorem dX11_wreck_154 : decode cX11_wreck 154 = .ok (.iinc 9 1, 3) := by decide +kernel
theorem dX11_wreck_157 : decode cX11_wreck 157 = .ok (.goto (-24), 3) := by decide +kernel
theorem dX11_wreck_160 : decode cX11_wreck 160 = .ok (.iload 7, 2) := by decide +kernel
theorem dX11_wreck_162 : decode cX11_wreck 162 = .ok (.iload 4, 2) := by decide +kernel
theorem dX11_wreck_164 : decode cX11_wreck 164 = .ok (.if_icmp .le 11, 3) := by decide +kernel
theorem dX11_wreck_167 : decode cX11_wreck 167 = .ok (.iload 7, 2) := by decide +kernel
theorem dX11_wreck_169 : decode cX11_wreck 169 = .ok (.istore 4, 2) := by decide +kernel
theorem dX11_wreck_171 : decode cX11_wreck 171 = .ok (.iload 8, 2) := by decide +kernel
theorem dX11_wreck_173 : decode cX11_wreck 173 = .ok (.istore 5, 2) := by decide +kernel
theorem dX11_wreck_175 : decode cX11_wreck 175 = .ok (.iinc 6 1, 3) := by decide +kernel
theorem dX11_wreck_178 : decode cX11_wreck 178 = .ok (.goto (-112), 3) := by decide +kernel
theorem dX11_wreck_181 : decode cX11_wreck 181 = .ok (.iload_n 3, 1) := by decide +kernel
theorem dX11_wreck_182 : decode cX11_wreck 182 = .ok (.ifCond .ne 8, 3) := by decide +kernel
theorem dX11_wreck_185 : decode cX11_wreck 185 = .ok (.iload 4, 2) := by decide +kernel
theorem dX11_wreck_187 : decode cX11_wreck 187 = .ok (.goto 5, 3) := by decide +kernel
theorem dX11_wreck_190 : decode cX11_wreck 190 = .ok (.iload 5, 2) := by decide +kernel
theorem dX11_wreck_192 : decode cX11_wreck 192 = .ok (.ireturn, 1) := by decide +kernel
set_option maxRecDepth 20000 in
theorem ggX11_canLie_X11_has : GoodIn wsX11_canLie wsX11_has := goodIn_r _ [5] (by decide +kernel) (by decide +kernel)
set_option maxRecDepth 20000 in
theorem gX11_canLie_X11_has : GoodIn wsX11_canLie (va_wsS RX11 144 yX11_has wsX11_has) := goodIn_app (goodIn_of _ (by decide +kernel)) ggX11_canLie_X11_has
set_option maxRecDepth 20000 in
theorem ggX11_canLie_X11_strengthAt : GoodIn wsX11_canLie wsX11_strengthAt := goodIn_r _ [9, 10, 11, 12, 13, 14, 15, 16, 17, 18, 19, 20, 21, 22, 23, 24, 25, 26, 27, 28, 29, 30, 31, 32, 33, 34, 35, 36, 37, 38, 39, 40, 41, 42, 43] (by decide +kernel) (by decide +kernel)
set_option maxRecDepth 20000 in
theorem gX11_canLie_X11_strengthAt : GoodIn wsX11_canLie (wsV RX11 134 RX11 yX11_strengthAt wsX11_strengthAt) := goodIn_app (goodIn_of _ (by decide +kernel)) ggX11_canLie_X11_strengthAt
theorem dX11_canLie_0 : decode cX11_canLie 0 = .ok (.iload_n 3, 1) := by decide +kernel
theorem dX11_canLie_1 : decode cX11_canLie 1 = .ok (.iload_n 2, 1) := by decide +kernel
theorem dX11_canLie_2 : decode cX11_canLie 2 = .ok (.invokestatic 144, 3) := by decide +kernel
theorem dX11_canLie_5 : decode cX11_canLie 5 = .ok (.ifCond .ne 39, 3) := by decide +kernel
theorem dX11_canLie_8 : decode cX11_canLie 8 = .ok (.aload_n 0, 1) := by decide +kernel
theorem dX11_canLie_9 : decode cX11_canLie 9 = .ok (.iload_n 1, 1) := by decide +kernel
theorem dX11_canLie_10 : decode cX11_canLie 10 = .ok (.iload_n 2, 1) := by decide +kernel
theorem dX11_canLie_11 : decode cX11_canLie 11 = .ok (.invokevirtual 134, 3) := by decide +kernel
theorem dX11_canLie_14 : decode cX11_canLie 14 = .ok (.iload 4, 2) := by decide +kernel
theorem dX11_canLie_16 : decode cX11_canLie 16 = .ok (.if_icmp .lt 28, 3) := by decide +kernel
theorem dX11_canLie_19 : decode cX11_canLie 19 = .ok (.aload_n 0, 1) := by decide +kernel
theorem dX11_canLie_20 : decode cX11_canLie 20 = .ok (.getfield 66, 3) := by decide +kernel
theorem dX11_canLie_23 : decode cX11_canLie 23 = .ok (.sipush 1024, 3) := by decide +kernel
theorem dX11_canLie_26 : decode cX11_canLie 26 = .ok (.iload_n 1, 1) := by decide +kernel
theorem dX11_canLie_27 : decode cX11_canLie 27 = .ok (.iconst 1, 1) := by decide +kernel
theorem dX11_canLie_28 : decode cX11_canLie 28 = .ok (.iadd, 1) := by decide +kernel
theorem dX11_canLie_29 : decode cX11_canLie 29 = .ok (.imul, 1) := by decide +kernel
theorem dX11_canLie_30 : decode cX11_canLie 30 = .ok (.iload_n 3, 1) := by decide +kernel
theorem dX11_canLie_31 : decode cX11_canLie 31 = .ok (.iconst 1, 1) := by decide +kernel
theorem dX11_canLie_32 : decode cX11_canLie 32 = .ok (.iload_n 2, 1) := by decide +kernel
theorem dX11_canLie_33 : decode cX11_canLie 33 = .ok (.ishl, 1) := by decide +kernel
theorem dX11_canLie_34 : decode cX11_canLie 34 = .ok (.ior, 1) := by decide +kernel
theorem dX11_canLie_35 : decode cX11_canLie 35 = .ok (.iadd, 1) := by decide +kernel
theorem dX11_canLie_36 : decode cX11_canLie 36 = .ok (.baload, 1) := by decide +kernel
theorem dX11_canLie_37 : decode cX11_canLie 37 = .ok (.ifCond .eq 7, 3) := by decide +kernel
theorem dX11_canLie_40 : decode cX11_canLie 40 = .ok (.iconst 1, 1) := by decide +kernel
theorem dX11_canLie_41 : decode cX11_canLie 41 = .ok (.goto 4, 3) := by decide +kernel
theorem dX11_canLie_44 : decode cX11_canLie 44 = .ok (.iconst 0, 1) := by decide +kernel
theorem dX11_canLie_45 : decode cX11_canLie 45 = .ok (.ireturn, 1) := by decide +kernel
set_option maxRecDepth 20000 in
theorem ggX11_place_X11_in : GoodIn wsX11_place wsX11_in := goodIn_r _ [7] (by decide +kernel) (by decide +kernel)
set_option maxRecDepth 20000 in
theorem gX11_place_X11_in : GoodIn wsX11_place (va_wsS RX11 75 yX11_in wsX11_in) := goodIn_app (goodIn_of _ (by decide +kernel)) ggX11_place_X11_in
set_option maxRecDepth 20000 in
theorem ggX11_place_X11_isStorm : GoodIn wsX11_place wsX11_isStorm := goodIn_r _ [10, 4, 5, 6, 7] (by decide +kernel) (by decide +kernel)
set_option maxRecDepth 20000 in
theorem gX11_place_X11_isStorm : GoodIn wsX11_place (va_wsS RX11 172 yX11_isStorm wsX11_isStorm) := goodIn_app (goodIn_of _ (by decide +kernel)) ggX11_place_X11_isStorm
set_option maxRecDepth 20000 in
theorem ggX11_place_X11_isAnchor : GoodIn wsX11_place wsX11_isAnchor := goodIn_r _ [14, 1, 4, 5, 6, 7, 37, 38, 39, 40, 41, 42, 43, 44, 45, 46, 47, 48, 49, 50, 51, 52, 53, 54, 55, 56, 57, 58, 59, 60, 61, 62, 63, 64, 65, 66] (by decide +kernel) (by decide +kernel)
set_option maxRecDepth 20000 in
theorem gX11_place_X11_isAnchor : GoodIn wsX11_place (wsV RX11 166 RX11 yX11_isAnchor wsX11_isAnchor) := goodIn_app (goodIn_of _ (by decide +kernel)) ggX11_place_X11_isAnchor
set_option maxRecDepth 20000 in
theorem ggX11_place_X11_has : GoodIn wsX11_place wsX11_has := goodIn_r _ [17] (by decide +kernel) (by decide +kernel)
set_option maxRecDepth 20000 in
theorem gX11_place_X11_has : GoodIn wsX11_place (va_wsS RX11 144 yX11_has wsX11_has) := goodIn_app (goodIn_of _ (by decide +kernel)) ggX11_place_X11_has
set_option maxRecDepth 20000 in
theorem ggX11_place_X11_those : GoodIn wsX11_place wsX11_those := goodIn_r _ [21, 1, 2, 37, 38, 39, 40, 41, 42, 43, 44, 45, 46, 47, 48, 49, 50, 51, 52, 53, 54, 55, 56, 57, 58, 59, 60, 61, 62, 63, 64, 65, 66] (by decide +kernel) (by decide +kernel)
set_option maxRecDepth 20000 in
theorem gX11_place_X11_those : GoodIn wsX11_place (wsV RX11 187 RX11 yX11_those wsX11_those) := goodIn_app (goodIn_of _ (by decide +kernel)) ggX11_place_X11_those
set_option maxRecDepth 20000 in
theorem ggX11_place_X11_isLying : GoodIn wsX11_place wsX11_isLying := goodIn_r _ [25, 2, 37, 38, 39, 40, 41, 42, 43, 44, 45, 46, 47, 48, 49, 50, 51, 52, 53, 54, 55, 56, 57, 58, 59, 60, 61, 62, 63, 64, 65, 66] (by decide +kernel) (by decide +kernel)
set_option maxRecDepth 20000 in
theorem gX11_place_X11_isLying : GoodIn wsX11_place (wsV RX11 137 RX11 yX11_isLying wsX11_isLying) := goodIn_app (goodIn_of _ (by decide +kernel)) ggX11_place_X11_isLying
set_option maxRecDepth 20000 in
theorem ggX11_place_X11_canLie : GoodIn wsX11_place wsX11_canLie := goodIn_r _ [29, 3, 15, 16, 6, 17, 30, 31, 32, 33, 34, 35, 2, 36, 37, 38, 39, 40, 41, 42, 43, 44, 45, 46, 47, 48, 49, 50, 51, 52, 53, 54, 55, 56, 57, 58, 59, 60, 61, 62, 63, 64, 65, 66] (by decide +kernel) (by decide +kernel)
set_option maxRecDepth 20000 in
theorem gX11_place_X11_canLie : GoodIn wsX11_place (wsV RX11 190 RX11 yX11_canLie wsX11_canLie) := goodIn_app (goodIn_of _ (by decide +kernel)) ggX11_place_X11_canLie
theorem dX11_place_0 : decode cX11_place 0 = .ok (.iload_n 1, 1) := by decide +kernel
theorem dX11_place_1 : decode cX11_place 1 = .ok (.iconst 0, 1) := by decide +kernel
theorem dX11_place_2 : decode cX11_place 2 = .ok (.iconst 1, 1) := by decide +kernel
theorem dX11_place_3 : decode cX11_place 3 = .ok (.aload_n 0, 1) := by decide +kernel
theorem dX11_place_4 : decode cX11_place 4 = .ok (.getfield 29, 3) := by decide +kernel
theorem dX11_place_7 : decode cX11_place 7 = .ok (.iconst 0, 1) := by decide +kernel
theorem dX11_place_8 : decode cX11_place 8 = .ok (.iaload, 1) := by decide +kernel
theorem dX11_place_9 : decode cX11_place 9 = .ok (.ishl, 1) := by decide +kernel
theorem dX11_place_10 : decode cX11_place 10 = .ok (.iconst 1, 1) := by decide +kernel
theorem dX11_place_11 : decode cX11_place 11 = .ok (.isub, 1) := by decide +kernel
theorem dX11_place_12 : decode cX11_place 12 = .ok (.invokestatic 75, 3) := by decide +kernel
theorem dX11_place_15 : decode cX11_place 15 = .ok (.ifCond .eq 26, 3) := by decide +kernel
theorem dX11_place_18 : decode cX11_place 18 = .ok (.iload_n 2, 1) := by decide +kernel
theorem dX11_place_19 : decode cX11_place 19 = .ok (.invokestatic 172, 3) := by decide +kernel
theorem dX11_place_22 : decode cX11_place 22 = .ok (.ifCond .eq 19, 3) := by decide +kernel
theorem dX11_place_25 : decode cX11_place 25 = .ok (.aload_n 0, 1) := by decide +kernel
theorem dX11_place_26 : decode cX11_place 26 = .ok (.iload_n 3, 1) := by decide +kernel
theorem dX11_place_27 : decode cX11_place 27 = .ok (.invokevirtual 166, 3) := by decide +kernel
theorem dX11_place_30 : decode cX11_place 30 = .ok (.ifCond .eq 11, 3) := by decide +kernel
theorem dX11_place_33 : decode cX11_place 33 = .ok (.iload_n 1, 1) := by decide +kernel
theorem dX11_place_34 : decode cX11_place 34 = .ok (.iload_n 3, 1) := by decide +kernel
theorem dX11_place_35 : decode cX11_place 35 = .ok (.invokestatic 144, 3) := by decide +kernel
theorem dX11_place_38 : decode cX11_place 38 = .ok (.ifCond .ne 5, 3) := by decide +kernel
theorem dX11_place_41 : decode cX11_place 41 = .ok (.iconst (-1), 1) := by decide +kernel
theorem dX11_place_42 : decode cX11_place 42 = .ok (.ireturn, 1) := by decide +kernel
theorem dX11_place_43 : decode cX11_place 43 = .ok (.iload_n 1, 1) := by decide +kernel
theorem dX11_place_44 : decode cX11_place 44 = .ok (.aload_n 0, 1) := by decide +kernel
theorem dX11_place_45 : decode cX11_place 45 = .ok (.iconst 0, 1) := by decide +kernel
theorem dX11_place_46 : decode cX11_place 46 = .ok (.invokevirtual 187, 3) := by decide +kernel
theorem dX11_place_49 : decode cX11_place 49 = .ok (.iconst (-1), 1) := by decide +kernel
theorem dX11_place_50 : decode cX11_place 50 = .ok (.ixor, 1) := by decide +kernel
theorem dX11_place_51 : decode cX11_place 51 = .ok (.iand, 1) := by decide +kernel
theorem dX11_place_52 : decode cX11_place 52 = .ok (.ifCond .eq 6, 3) := by decide +kernel
theorem dX11_place_55 : decode cX11_place 55 = .ok (.bipush (-2), 2) := by decide +kernel
theorem dX11_place_57 : decode cX11_place 57 = .ok (.ireturn, 1) := by decide +kernel
theorem dX11_place_58 : decode cX11_place 58 = .ok (.iconst 0, 1) := by decide +kernel
theorem dX11_place_59 : decode cX11_place 59 = .ok (.istore 4, 2) := by decide +kernel
theorem dX11_place_61 : decode cX11_place 61 = .ok (.iconst 0, 1) := by decide +kernel
theorem dX11_place_62 : decode cX11_place 62 = .ok (.istore 5, 2) := by decide +kernel
theorem dX11_place_64 : decode cX11_place 64 = .ok (.iload 5, 2) := by decide +kernel
theorem dX11_place_66 : decode cX11_place 66 = .ok (.aload_n 0, 1) := by decide +kernel
theorem dX11_place_67 : decode cX11_place 67 = .ok (.getfield 29, 3) := by decide +kernel
theorem dX11_place_70 : decode cX11_place 70 = .ok (.iconst 0, 1) := by decide +kernel
theorem dX11_place_71 : decode cX11_place 71 = .ok (.iaload, 1) := by decide +kernel
theorem dX11_place_72 : decode cX11_place 72 = .ok (.if_icmp .ge 47, 3) := by decide +kernel
theorem dX11_place_75 : decode cX11_place 75 = .ok (.iload 4, 2) := by decide +kernel
theorem dX11_place_77 : decode cX11_place 77 = .ok (.aload_n 0, 1) := by decide +kernel
theorem dX11_place_78 : decode cX11_place 78 = .ok (.iload 5, 2) := by decide +kernel
theorem dX11_place_80 : decode cX11_place 80 = .ok (.invokevirtual 137, 3) := by decide +kernel
theorem dX11_place_83 : decode cX11_place 83 = .ok (.ifCond .eq 26, 3) := by decide +kernel
theorem dX11_place_86 : decode cX11_place 86 = .ok (.iload_n 1, 1) := by decide +kernel
theorem dX11_place_87 : decode cX11_place 87 = .ok (.iload 5, 2) := by decide +kernel
theorem dX11_place_89 : decode cX11_place 89 = .ok (.invokestatic 144, 3) := by decide +kernel
theorem dX11_place_92 : decode cX11_place 92 = .ok (.ifCond .ne 17, 3) := by decide +kernel
theorem dX11_place_95 : decode cX11_place 95 = .ok (.iconst 1, 1) := by decide +kernel
theorem dX11_place_96 : decode cX11_place 96 = .ok (.aload_n 0, 1) := by decide +kernel
theorem dX11_place_97 : decode cX11_place 97 = .ok (.getfield 47, 3) := by decide +kernel
theorem dX11_place_100 : decode cX11_place 100 = .ok (.iconst 0, 1) := by decide +kernel
theorem dX11_place_101 : decode cX11_place 101 = .ok (.iload 5, 2) := by decide +kernel
theorem dX11_place_103 : decode cX11_place 103 = .ok (.iadd, 1) := by decide +kernel
theorem dX11_place_104 : decode cX11_place 104 = .ok (.iaload, 1) := by decide +kernel
theorem dX11_place_105 : decode cX11_place 105 = .ok (.ishl, 1) := by decide +kernel
theorem dX11_place_106 : decode cX11_place 106 = .ok (.goto 4, 3) := by decide +kernel
theorem dX11_place_109 : decode cX11_place 109 = .ok (.iconst 0, 1) := by decide +kernel
theorem dX11_place_110 : decode cX11_place 110 = .ok (.ior, 1) := by decide +kernel
theorem dX11_place_111 : decode cX11_place 111 = .ok (.istore 4, 2) := by decide +kernel
theorem dX11_place_113 : decode cX11_place 113 = .ok (.iinc 5 1, 3) := by decide +kernel
theorem dX11_place_116 : decode cX11_place 116 = .ok (.goto (-52), 3) := by decide +kernel
theorem dX11_place_119 : decode cX11_place 119 = .ok (.iconst 0, 1) := by decide +kernel
theorem dX11_place_120 : decode cX11_place 120 = .ok (.istore 5, 2) := by decide +kernel
theorem dX11_place_122 : decode cX11_place 122 = .ok (.iload 5, 2) := by decide +kernel
theorem dX11_place_124 : decode cX11_place 124 = .ok (.sipush 1024, 3) := by decide +kernel
theorem dX11_place_127 : decode cX11_place 127 = .ok (.if_icmp .ge 28, 3) := by decide +kernel
theorem dX11_place_130 : decode cX11_place 130 = .ok (.aload_n 0, 1) := by decide +kernel
theorem dX11_place_131 : decode cX11_place 131 = .ok (.getfield 66, 3) := by decide +kernel
theorem dX11_place_134 : decode cX11_place 134 = .ok (.sipush 1024, 3) := by decide +kernel
theorem dX11_place_137 : decode cX11_place 137 = .ok (.aload_n 0, 1) := by decide +kernel
theorem dX11_place_138 : decode cX11_place 138 = .ok (.getfield 29, 3) := by decide +kernel
theorem dX11_place_141 : decode cX11_place 141 = .ok (.iconst 0, 1) := by decide +kernel
theorem dX11_place_142 : decode cX11_place 142 = .ok (.iaload, 1) := by decide +kernel
theorem dX11_place_143 : decode cX11_place 143 = .ok (.imul, 1) := by decide +kernel
theorem dX11_place_144 : decode cX11_place 144 = .ok (.iload 5, 2) := by decide +kernel
theorem dX11_place_146 : decode cX11_place 146 = .ok (.iadd, 1) := by decide +kernel
theorem dX11_place_147 : decode cX11_place 147 = .ok (.iconst 1, 1) := by decide +kernel
theorem dX11_place_148 : decode cX11_place 148 = .ok (.bastore, 1) := by decide +kernel
theorem dX11_place_149 : decode cX11_place 149 = .ok (.iinc 5 1, 3) := by decide +kernel
theorem dX11_place_152 : decode cX11_place 152 = .ok (.goto (-30), 3) := by decide +kernel
theorem dX11_place_155 : decode cX11_place 155 = .ok (.aload_n 0, 1) := by decide +kernel
theorem dX11_place_156 : decode cX11_place 156 = .ok (.getfield 29, 3) := by decide +kernel
theorem dX11_place_159 : decode cX11_place 159 = .ok (.iconst 0, 1) := by decide +kernel
theorem dX11_place_160 : decode cX11_place 160 = .ok (.iaload, 1) := by decide +kernel
theorem dX11_place_161 : decode cX11_place 161 = .ok (.iconst 1, 1) := by decide +kernel
theorem dX11_place_162 : decode cX11_place 162 = .ok (.isub, 1) := by decide +kernel
theorem dX11_place_163 : decode cX11_place 163 = .ok (.istore 5, 2) := by decide +kernel
theorem dX11_place_165 : decode cX11_place 165 = .ok (.iload 5, 2) := by decide +kernel
theorem dX11_place_167 : decode cX11_place 167 = .ok (.ifCond .lt 128, 3) := by decide +kernel
theorem dX11_place_170 : decode cX11_place 170 = .ok (.iconst 0, 1) := by decide +kernel
theorem dX11_place_171 : decode cX11_place 171 = .ok (.istore 6, 2) := by decide +kernel
theorem dX11_place_173 : decode cX11_place 173 = .ok (.iload 6, 2) := by decide +kernel
theorem dX11_place_175 : decode cX11_place 175 = .ok (.sipush 1024, 3) := by decide +kernel
theorem dX11_place_178 : decode cX11_place 178 = .ok (.if_icmp .ge 111, 3) := by decide +kernel
theorem dX11_place_181 : decode cX11_place 181 = .ok (.iload_n 1, 1) := by decide +kernel
theorem dX11_place_182 : decode cX11_place 182 = .ok (.iload 5, 2) := by decide +kernel
theorem dX11_place_184 : decode cX11_place 184 = .ok (.invokestatic 144, 3) := by decide +kernel
theorem dX11_place_187 : decode cX11_place 187 = .ok (.ifCond .ne 26, 3) := by decide +kernel
theorem dX11_place_190 : decode cX11_place 190 = .ok (.aload_n 0, 1) := by decide +kernel
theorem dX11_place_191 : decode cX11_place 191 = .ok (.getfield 66, 3) := by decide +kernel
theorem dX11_place_194 : decode cX11_place 194 = .ok (.sipush 1024, 3) := by decide +kernel
theorem dX11_place_197 : decode cX11_place 197 = .ok (.iload 5, 2) := by decide +kernel
theorem dX11_place_199 : decode cX11_place 199 = .ok (.iconst 1, 1) := by decide +kernel
theorem dX11_place_200 : decode cX11_place 200 = .ok (.iadd, 1) := by decide +kernel
theorem dX11_place_201 : decode cX11_place 201 = .ok (.imul, 1) := by decide +kernel
theorem dX11_place_202 : decode cX11_place 202 = .ok (.iload 6, 2) := by decide +kernel
theorem dX11_place_204 : decode cX11_place 204 = .ok (.iadd, 1) := by decide +kernel
theorem dX11_place_205 : decode cX11_place 205 = .ok (.baload, 1) := by decide +kernel
theorem dX11_place_206 : decode cX11_place 206 = .ok (.ifCond .eq 7, 3) := by decide +kernel
theorem dX11_place_209 : decode cX11_place 209 = .ok (.iconst 1, 1) := by decide +kernel
theorem dX11_place_210 : decode cX11_place 210 = .ok (.goto 4, 3) := by decide +kernel
theorem dX11_place_213 : decode cX11_place 213 = .ok (.iconst 0, 1) := by decide +kernel
theorem dX11_place_214 : decode cX11_place 214 = .ok (.istore 7, 2) := by decide +kernel
theorem dX11_place_216 : decode cX11_place 216 = .ok (.iconst 0, 1) := by decide +kernel
theorem dX11_place_217 : decode cX11_place 217 = .ok (.istore 8, 2) := by decide +kernel
theorem dX11_place_219 : decode cX11_place 219 = .ok (.iload 8, 2) := by decide +kernel
theorem dX11_place_221 : decode cX11_place 221 = .ok (.bipush 10, 2) := by decide +kernel
theorem dX11_place_223 : decode cX11_place 223 = .ok (.if_icmp .ge 44, 3) := by decide +kernel
theorem dX11_place_226 : decode cX11_place 226 = .ok (.iload_n 1, 1) := by decide +kernel
theorem dX11_place_227 : decode cX11_place 227 = .ok (.iload 5, 2) := by decide +kernel
theorem dX11_place_229 : decode cX11_place 229 = .ok (.invokestatic 144, 3) := by decide +kernel
theorem dX11_place_232 : decode cX11_place 232 = .ok (.ifCond .eq 35, 3) := by decide +kernel
theorem dX11_place_235 : decode cX11_place 235 = .ok (.iload 7, 2) := by decide +kernel
theorem dX11_place_237 : decode cX11_place 237 = .ok (.ifCond .ne 17, 3) := by decide +kernel
theorem dX11_place_240 : decode cX11_place 240 = .ok (.aload_n 0, 1) := by decide +kernel
theorem dX11_place_241 : decode cX11_place 241 = .ok (.iload 5, 2) := by decide +kernel
theorem dX11_place_243 : decode cX11_place 243 = .ok (.iload 8, 2) := by decide +kernel
theorem dX11_place_245 : decode cX11_place 245 = .ok (.iload 6, 2) := by decide +kernel
theorem dX11_place_247 : decode cX11_place 247 = .ok (.iload_n 2, 1) := by decide +kernel
theorem dX11_place_248 : decode cX11_place 248 = .ok (.invokevirtual 190, 3) := by decide +kernel
theorem dX11_place_251 : decode cX11_place 251 = .ok (.ifCond .eq 7, 3) := by decide +kernel
theorem dX11_place_254 : decode cX11_place 254 = .ok (.iconst 1, 1) := by decide +kernel
theorem dX11_place_255 : decode cX11_place 255 = .ok (.goto 4, 3) := by decide +kernel
theorem dX11_place_258 : decode cX11_place 258 = .ok (.iconst 0, 1) := by decide +kernel
theorem dX11_place_259 : decode cX11_place 259 = .ok (.istore 7, 2) := by decide +kernel
theorem dX11_place_261 : decode cX11_place 261 = .ok (.iinc 8 1, 3) := by decide +kernel
theorem dX11_place_264 : decode cX11_place 264 = .ok (.goto (-45), 3) := by decide +kernel
theorem dX11_place_267 : decode cX11_place 267 = .ok (.aload_n 0, 1) := by decide +kernel
theorem dX11_place_268 : decode cX11_place 268 = .ok (.getfield 66, 3) := by decide +kernel
theorem dX11_place_271 : decode cX11_place 271 = .ok (.sipush 1024, 3) := by decide +kernel
theorem dX11_place_274 : decode cX11_place 274 = .ok (.iload 5, 2) := by decide +kernel
theorem dX11_place_276 : decode cX11_place 276 = .ok (.imul, 1) := by decide +kernel
theorem dX11_place_277 : decode cX11_place 277 = .ok (.iload 6, 2) := by decide +kernel
theorem dX11_place_279 : decode cX11_place 279 = .ok (.iadd, 1) := by decide +kernel
theorem dX11_place_280 : decode cX11_place 280 = .ok (.iload 7, 2) := by decide +kernel
theorem dX11_place_282 : decode cX11_place 282 = .ok (.bastore, 1) := by decide +kernel
theorem dX11_place_283 : decode cX11_place 283 = .ok (.iinc 6 1, 3) := by decide +kernel
theorem dX11_place_286 : decode cX11_place 286 = .ok (.goto (-113), 3) := by decide +kernel
theorem dX11_place_289 : decode cX11_place 289 = .ok (.iinc 5 (-1), 3) := by decide +kernel
theorem dX11_place_292 : decode cX11_place 292 = .ok (.goto (-127), 3) := by decide +kernel
theorem dX11_place_295 : decode cX11_place 295 = .ok (.aload_n 0, 1) := by decide +kernel
theorem dX11_place_296 : decode cX11_place 296 = .ok (.getfield 66, 3) := by decide +kernel
theorem dX11_place_299 : decode cX11_place 299 = .ok (.iload 4, 2) := by decide +kernel
theorem dX11_place_301 : decode cX11_place 301 = .ok (.baload, 1) := by decide +kernel
theorem dX11_place_302 : decode cX11_place 302 = .ok (.ifCond .ne 6, 3) := by decide +kernel
theorem dX11_place_305 : decode cX11_place 305 = .ok (.bipush (-9), 2) := by decide +kernel
theorem dX11_place_307 : decode cX11_place 307 = .ok (.ireturn, 1) := by decide +kernel
theorem dX11_place_308 : decode cX11_place 308 = .ok (.iload 4, 2) := by decide +kernel
theorem dX11_place_310 : decode cX11_place 310 = .ok (.istore 5, 2) := by decide +kernel
theorem dX11_place_312 : decode cX11_place 312 = .ok (.bipush (-9), 2) := by decide +kernel
theorem dX11_place_314 : decode cX11_place 314 = .ok (.istore 6, 2) := by decide +kernel
theorem dX11_place_316 : decode cX11_place 316 = .ok (.iconst 0, 1) := by decide +kernel
theorem dX11_place_317 : decode cX11_place 317 = .ok (.istore 7, 2) := by decide +kernel
theorem dX11_place_319 : decode cX11_place 319 = .ok (.iload 7, 2) := by decide +kernel
theorem dX11_place_321 : decode cX11_place 321 = .ok (.iload_n 3, 1) := by decide +kernel
theorem dX11_place_322 : decode cX11_place 322 = .ok (.if_icmp .gt 50, 3) := by decide +kernel
theorem dX11_place_325 : decode cX11_place 325 = .ok (.iload_n 1, 1) := by decide +kernel
theorem dX11_place_326 : decode cX11_place 326 = .ok (.iload 7, 2) := by decide +kernel
theorem dX11_place_328 : decode cX11_place 328 = .ok (.invokestatic 144, 3) := by decide +kernel
theorem dX11_place_331 : decode cX11_place 331 = .ok (.ifCond .eq 35, 3) := by decide +kernel
theorem dX11_place_334 : decode cX11_place 334 = .ok (.iconst 0, 1) := by decide +kernel
theorem dX11_place_335 : decode cX11_place 335 = .ok (.istore 6, 2) := by decide +kernel
theorem dX11_place_337 : decode cX11_place 337 = .ok (.aload_n 0, 1) := by decide +kernel
theorem dX11_place_338 : decode cX11_place 338 = .ok (.iload 7, 2) := by decide +kernel
theorem dX11_place_340 : decode cX11_place 340 = .ok (.iload 6, 2) := by decide +kernel
theorem dX11_place_342 : decode cX11_place 342 = .ok (.iload 5, 2) := by decide +kernel
theorem dX11_place_344 : decode cX11_place 344 = .ok (.iload_n 2, 1) := by decide +kernel
theorem dX11_place_345 : decode cX11_place 345 = .ok (.invokevirtual 190, 3) := by decide +kernel
theorem dX11_place_348 : decode cX11_place 348 = .ok (.ifCond .ne 9, 3) := by decide +kernel
theorem dX11_place_351 : decode cX11_place 351 = .ok (.iinc 6 1, 3) := by decide +kernel
theorem dX11_place_354 : decode cX11_place 354 = .ok (.goto (-17), 3) := by decide +kernel
theorem dX11_place_357 : decode cX11_place 357 = .ok (.iload 5, 2) := by decide +kernel
theorem dX11_place_359 : decode cX11_place 359 = .ok (.iconst 1, 1) := by decide +kernel
theorem dX11_place_360 : decode cX11_place 360 = .ok (.iload 6, 2) := by decide +kernel
theorem dX11_place_362 : decode cX11_place 362 = .ok (.ishl, 1) := by decide +kernel
theorem dX11_place_363 : decode cX11_place 363 = .ok (.ior, 1) := by decide +kernel
theorem dX11_place_364 : decode cX11_place 364 = .ok (.istore 5, 2) := by decide +kernel
theorem dX11_place_366 : decode cX11_place 366 = .ok (.iinc 7 1, 3) := by decide +kernel
theorem dX11_place_369 : decode cX11_place 369 = .ok (.goto (-50), 3) := by decide +kernel
theorem dX11_place_372 : decode cX11_place 372 = .ok (.iload 6, 2) := by decide +kernel
theorem dX11_place_374 : decode cX11_place 374 = .ok (.ireturn, 1) := by decide +kernel
set_option maxRecDepth 20000 in
theorem ggX11_vital_X11_isRaft : GoodIn wsX11_vital wsX11_isRaft := goodIn_r _ [7, 8, 9, 10, 6, 11, 43, 44, 45, 46, 47, 48, 49, 50, 51, 52, 53, 54, 55, 56, 57, 58, 59, 60, 61, 62, 63, 64, 65, 66, 67, 68, 69, 70, 71, 72] (by decide +kernel) (by decide +kernel)
set_option maxRecDepth 20000 in
theorem gX11_vital_X11_isRaft : GoodIn wsX11_vital (wsV RX11 157 RX11 yX11_isRaft wsX11_isRaft) := goodIn_app (goodIn_of _ (by decide +kernel)) ggX11_vital_X11_isRaft
set_option maxRecDepth 20000 in
theorem ggX11_vital_X11_isStorm : GoodIn wsX11_vital wsX11_isStorm := goodIn_r _ [14, 9, 10, 6, 11] (by decide +kernel) (by decide +kernel)
set_option maxRecDepth 20000 in
theorem gX11_vital_X11_isStorm : GoodIn wsX11_vital (va_wsS RX11 172 yX11_isStorm wsX11_isStorm) := goodIn_app (goodIn_of _ (by decide +kernel)) ggX11_vital_X11_isStorm
set_option maxRecDepth 20000 in
theorem ggX11_vital_X11_townOf : GoodIn wsX11_vital wsX11_townOf := goodIn_r _ [18, 8, 19, 20, 21, 6, 22, 43, 44, 45, 46, 47, 48, 49, 50, 51, 52, 53, 54, 55, 56, 57, 58, 59, 60, 61, 62, 63, 64, 65, 66, 67, 68, 69, 70, 71, 72] (by decide +kernel) (by decide +kernel)
set_option maxRecDepth 20000 in
theorem gX11_vital_X11_townOf : GoodIn wsX11_vital (wsV RX11 154 RX11 yX11_townOf wsX11_townOf) := goodIn_app (goodIn_of _ (by decide +kernel)) ggX11_vital_X11_townOf
set_option maxRecDepth 20000 in
theorem ggX11_vital_X11_might : GoodIn wsX11_vital wsX11_might := goodIn_r _ [26, 1, 2, 15, 16, 17, 6, 18, 8, 19, 20, 21, 22, 27, 28, 29, 30, 31, 32, 33, 34, 35, 36, 37, 38, 39, 40, 41, 42, 43, 44, 45, 46, 47, 48, 49, 50, 51, 52, 53, 54, 55, 56, 57, 58, 59, 60, 61, 62, 63, 64, 65, 66, 67, 68, 69, 70, 71, 72] (by decide +kernel) (by decide +kernel)
set_option maxRecDepth 20000 in
theorem gX11_vital_X11_might : GoodIn wsX11_vital (wsV RX11 163 RX11 yX11_might wsX11_might) := goodIn_app (goodIn_of _ (by decide +kernel)) ggX11_vital_X11_might
set_option maxRecDepth 20000 in
theorem ggX11_vital_X11_isLying : GoodIn wsX11_vital wsX11_isLying := goodIn_r _ [30, 31, 43, 44, 45, 46, 47, 48, 49, 50, 51, 52, 53, 54, 55, 56, 57, 58, 59, 60, 61, 62, 63, 64, 65, 66, 67, 68, 69, 70, 71, 72] (by decide +kernel) (by decide +kernel)
set_option maxRecDepth 20000 in
theorem gX11_vital_X11_isLying : GoodIn wsX11_vital (wsV RX11 137 RX11 yX11_isLying wsX11_isLying) := goodIn_app (goodIn_of _ (by decide +kernel)) ggX11_vital_X11_isLying
set_option maxRecDepth 20000 in
theorem ggX11_vital_X11_has : GoodIn wsX11_vital wsX11_has := goodIn_r _ [22] (by decide +kernel) (by decide +kernel)
set_option maxRecDepth 20000 in
theorem gX11_vital_X11_has : GoodIn wsX11_vital (va_wsS RX11 144 yX11_has wsX11_has) := goodIn_app (goodIn_of _ (by decide +kernel)) ggX11_vital_X11_has
set_option maxRecDepth 20000 in
theorem ggX11_vital_X11_strength : GoodIn wsX11_vital wsX11_strength := goodIn_r _ [35, 31, 36, 37, 38, 6, 39, 40, 41, 42, 43, 44, 45, 46, 47, 48, 49, 50, 51, 52, 53, 54, 55, 56, 57, 58, 59, 60, 61, 62, 63, 64, 65, 66, 67, 68, 69, 70, 71, 72] (by decide +kernel) (by decide +kernel)
set_option maxRecDepth 20000 in
theorem gX11_vital_X11_strength : GoodIn wsX11_vital (wsV RX11 140 RX11 yX11_strength wsX11_strength) := goodIn_app (goodIn_of _ (by decide +kernel)) ggX11_vital_X11_strength
theorem dX11_vital_0 : decode cX11_vital 0 = .ok (.aload_n 0, 1) := by decide +kernel
theorem dX11_vital_1 : decode cX11_vital 1 = .ok (.iload_n 1, 1) := by decide +kernel
theorem dX11_vital_2 : decode cX11_vital 2 = .ok (.invokevirtual 157, 3) := by decide +kernel
theorem dX11_vital_5 : decode cX11_vital 5 = .ok (.ifCond .eq 10, 3) := by decide +kernel
theorem dX11_vital_8 : decode cX11_vital 8 = .ok (.iload_n 2, 1) := by decide +kernel
theorem dX11_vital_9 : decode cX11_vital 9 = .ok (.invokestatic 172, 3) := by decide +kernel
theorem dX11_vital_12 : decode cX11_vital 12 = .ok (.ifCond .ne 5, 3) := by decide +kernel
theorem dX11_vital_15 : decode cX11_vital 15 = .ok (.iconst (-1), 1) := by decide +kernel
theorem dX11_vital_16 : decode cX11_vital 16 = .ok (.ireturn, 1) := by decide +kernel
theorem dX11_vital_17 : decode cX11_vital 17 = .ok (.aload_n 0, 1) := by decide +kernel
theorem dX11_vital_18 : decode cX11_vital 18 = .ok (.iload_n 1, 1) := by decide +kernel
theorem dX11_vital_19 : decode cX11_vital 19 = .ok (.invokevirtual 154, 3) := by decide +kernel
theorem dX11_vital_22 : decode cX11_vital 22 = .ok (.istore_n 3, 1) := by decide +kernel
theorem dX11_vital_23 : decode cX11_vital 23 = .ok (.aload_n 0, 1) := by decide +kernel
theorem dX11_vital_24 : decode cX11_vital 24 = .ok (.iload_n 1, 1) := by decide +kernel
theorem dX11_vital_25 : decode cX11_vital 25 = .ok (.invokevirtual 163, 3) := by decide +kernel
theorem dX11_vital_28 : decode cX11_vital 28 = .ok (.istore 4, 2) := by decide +kernel
theorem dX11_vital_30 : decode cX11_vital 30 = .ok (.iconst 0, 1) := by decide +kernel
theorem dX11_vital_31 : decode cX11_vital 31 = .ok (.istore 5, 2) := by decide +kernel
theorem dX11_vital_33 : decode cX11_vital 33 = .ok (.iconst 0, 1) := by decide +kernel
theorem dX11_vital_34 : decode cX11_vital 34 = .ok (.istore 6, 2) := by decide +kernel
theorem dX11_vital_36 : decode cX11_vital 36 = .ok (.iload 6, 2) := by decide +kernel
theorem dX11_vital_38 : decode cX11_vital 38 = .ok (.aload_n 0, 1) := by decide +kernel
theorem dX11_vital_39 : decode cX11_vital 39 = .ok (.getfield 29, 3) := by decide +kernel
theorem dX11_vital_42 : decode cX11_vital 42 = .ok (.iconst 0, 1) := by decide +kernel
theorem dX11_vital_43 : decode cX11_vital 43 = .ok (.iaload, 1) := by decide +kernel
theorem dX11_vital_44 : decode cX11_vital 44 = .ok (.if_icmp .ge 76, 3) := by decide +kernel
theorem dX11_vital_47 : decode cX11_vital 47 = .ok (.aload_n 0, 1) := by decide +kernel
theorem dX11_vital_48 : decode cX11_vital 48 = .ok (.iload 6, 2) := by decide +kernel
theorem dX11_vital_50 : decode cX11_vital 50 = .ok (.invokevirtual 137, 3) := by decide +kernel
theorem dX11_vital_53 : decode cX11_vital 53 = .ok (.ifCond .eq 40, 3) := by decide +kernel
theorem dX11_vital_56 : decode cX11_vital 56 = .ok (.iload_n 3, 1) := by decide +kernel
theorem dX11_vital_57 : decode cX11_vital 57 = .ok (.aload_n 0, 1) := by decide +kernel
theorem dX11_vital_58 : decode cX11_vital 58 = .ok (.getfield 32, 3) := by decide +kernel
theorem dX11_vital_61 : decode cX11_vital 61 = .ok (.iload 6, 2) := by decide +kernel
theorem dX11_vital_63 : decode cX11_vital 63 = .ok (.iaload, 1) := by decide +kernel
theorem dX11_vital_64 : decode cX11_vital 64 = .ok (.invokestatic 144, 3) := by decide +kernel
theorem dX11_vital_67 : decode cX11_vital 67 = .ok (.ifCond .eq 26, 3) := by decide +kernel
theorem dX11_vital_70 : decode cX11_vital 70 = .ok (.iload 4, 2) := by decide +kernel
theorem dX11_vital_72 : decode cX11_vital 72 = .ok (.iload_n 2, 1) := by decide +kernel
theorem dX11_vital_73 : decode cX11_vital 73 = .ok (.if_icmp .lt 20, 3) := by decide +kernel
theorem dX11_vital_76 : decode cX11_vital 76 = .ok (.iload 4, 2) := by decide +kernel
theorem dX11_vital_78 : decode cX11_vital 78 = .ok (.aload_n 0, 1) := by decide +kernel
theorem dX11_vital_79 : decode cX11_vital 79 = .ok (.iload 6, 2) := by decide +kernel
theorem dX11_vital_81 : decode cX11_vital 81 = .ok (.invokevirtual 140, 3) := by decide +kernel
theorem dX11_vital_84 : decode cX11_vital 84 = .ok (.isub, 1) := by decide +kernel
theorem dX11_vital_85 : decode cX11_vital 85 = .ok (.iload_n 2, 1) := by decide +kernel
theorem dX11_vital_86 : decode cX11_vital 86 = .ok (.if_icmp .ge 7, 3) := by decide +kernel
theorem dX11_vital_89 : decode cX11_vital 89 = .ok (.iconst 1, 1) := by decide +kernel
theorem dX11_vital_90 : decode cX11_vital 90 = .ok (.goto 4, 3) := by decide +kernel
theorem dX11_vital_93 : decode cX11_vital 93 = .ok (.iconst 0, 1) := by decide +kernel
theorem dX11_vital_94 : decode cX11_vital 94 = .ok (.istore 7, 2) := by decide +kernel
theorem dX11_vital_96 : decode cX11_vital 96 = .ok (.iload 5, 2) := by decide +kernel
theorem dX11_vital_98 : decode cX11_vital 98 = .ok (.iload 7, 2) := by decide +kernel
theorem dX11_vital_100 : decode cX11_vital 100 = .ok (.ifCond .eq 10, 3) := by decide +kernel
theorem dX11_vital_103 : decode cX11_vital 103 = .ok (.iconst 1, 1) := by decide +kernel
theorem dX11_vital_104 : decode cX11_vital 104 = .ok (.iload 6, 2) := by decide +kernel
theorem dX11_vital_106 : decode cX11_vital 106 = .ok (.ishl, 1) := by decide +kernel
theorem dX11_vital_107 : decode cX11_vital 107 = .ok (.goto 4, 3) := by decide +kernel
theorem dX11_vital_110 : decode cX11_vital 110 = .ok (.iconst 0, 1) := by decide +kernel
theorem dX11_vital_111 : decode cX11_vital 111 = .ok (.ior, 1) := by decide +kernel
theorem dX11_vital_112 : decode cX11_vital 112 = .ok (.istore 5, 2) := by decide +kernel
theorem dX11_vital_114 : decode cX11_vital 114 = .ok (.iinc 6 1, 3) := by decide +kernel
theorem dX11_vital_117 : decode cX11_vital 117 = .ok (.goto (-81), 3) := by decide +kernel
theorem dX11_vital_120 : decode cX11_vital 120 = .ok (.iload 5, 2) := by decide +kernel
theorem dX11_vital_122 : decode cX11_vital 122 = .ok (.ireturn, 1) := by decide +kernel
set_option maxRecDepth 20000 in
theorem ggX11_odds_X11_isAnchor : GoodIn wsX11_odds wsX11_isAnchor := goodIn_r _ [5, 6, 7, 8, 4, 9, 33, 34, 35, 36, 37, 38, 39, 40, 41, 42, 43, 44, 45, 46, 47, 48, 49, 50, 51, 52, 53, 54, 55, 56, 57, 58, 59, 60, 61, 62] (by decide +kernel) (by decide +kernel)
set_option maxRecDepth 20000 in
theorem gX11_odds_X11_isAnchor : GoodIn wsX11_odds (wsV RX11 166 RX11 yX11_isAnchor wsX11_isAnchor) := goodIn_app (goodIn_of _ (by decide +kernel)) ggX11_odds_X11_isAnchor
set_option maxRecDepth 20000 in
theorem ggX11_odds_X11_isStorm : GoodIn wsX11_odds wsX11_isStorm := goodIn_r _ [12, 7, 8, 4, 9] (by decide +kernel) (by decide +kernel)
set_option maxRecDepth 20000 in
theorem gX11_odds_X11_isStorm : GoodIn wsX11_odds (va_wsS RX11 172 yX11_isStorm wsX11_isStorm) := goodIn_app (goodIn_of _ (by decide +kernel)) ggX11_odds_X11_isStorm
set_option maxRecDepth 20000 in
theorem ggX11_odds_X11_in : GoodIn wsX11_odds wsX11_in := goodIn_r _ [9] (by decide +kernel) (by decide +kernel)
set_option maxRecDepth 20000 in
theorem gX11_odds_X11_in : GoodIn wsX11_odds (va_wsS RX11 75 yX11_in wsX11_in) := goodIn_app (goodIn_of _ (by decide +kernel)) ggX11_odds_X11_in
set_option maxRecDepth 20000 in
theorem ggX11_odds_X11_isLying : GoodIn wsX11_odds wsX11_isLying := goodIn_r _ [16, 17, 33, 34, 35, 36, 37, 38, 39, 40, 41, 42, 43, 44, 45, 46, 47, 48, 49, 50, 51, 52, 53, 54, 55, 56, 57, 58, 59, 60, 61, 62] (by decide +kernel) (by decide +kernel)
set_option maxRecDepth 20000 in
theorem gX11_odds_X11_isLying : GoodIn wsX11_odds (wsV RX11 137 RX11 yX11_isLying wsX11_isLying) := goodIn_app (goodIn_of _ (by decide +kernel)) ggX11_odds_X11_isLying
set_option maxRecDepth 20000 in
theorem ggX11_odds_X11_hold : GoodIn wsX11_odds wsX11_hold := goodIn_r _ [21, 6, 17, 13, 14, 15, 4, 16, 22, 23, 24, 25, 26, 27, 28, 29, 30, 31, 32, 33, 34, 35, 36, 37, 38, 39, 40, 41, 42, 43, 44, 45, 46, 47, 48, 49, 50, 51, 52, 53, 54, 55, 56, 57, 58, 59, 60, 61, 62] (by decide +kernel) (by decide +kernel)
set_option maxRecDepth 20000 in
theorem gX11_odds_X11_hold : GoodIn wsX11_odds (wsV RX11 169 RX11 yX11_hold wsX11_hold) := goodIn_app (goodIn_of _ (by decide +kernel)) ggX11_odds_X11_hold
theorem dX11_odds_0 : decode cX11_odds 0 = .ok (.aload_n 0, 1) := by decide +kernel
theorem dX11_odds_1 : decode cX11_odds 1 = .ok (.iload_n 1, 1) := by decide +kernel
theorem dX11_odds_2 : decode cX11_odds 2 = .ok (.invokevirtual 166, 3) := by decide +kernel
theorem dX11_odds_5 : decode cX11_odds 5 = .ok (.ifCond .eq 29, 3) := by decide +kernel
theorem dX11_odds_8 : decode cX11_odds 8 = .ok (.iload_n 2, 1) := by decide +kernel
theorem dX11_odds_9 : decode cX11_odds 9 = .ok (.invokestatic 172, 3) := by decide +kernel
theorem dX11_odds_12 : decode cX11_odds 12 = .ok (.ifCond .eq 22, 3) := by decide +kernel
theorem dX11_odds_15 : decode cX11_odds 15 = .ok (.iload_n 3, 1) := by decide +kernel
theorem dX11_odds_16 : decode cX11_odds 16 = .ok (.iconst 0, 1) := by decide +kernel
theorem dX11_odds_17 : decode cX11_odds 17 = .ok (.iconst 4, 1) := by decide +kernel
theorem dX11_odds_18 : decode cX11_odds 18 = .ok (.invokestatic 75, 3) := by decide +kernel
theorem dX11_odds_21 : decode cX11_odds 21 = .ok (.ifCond .eq 13, 3) := by decide +kernel
theorem dX11_odds_24 : decode cX11_odds 24 = .ok (.iload 4, 2) := by decide +kernel
theorem dX11_odds_26 : decode cX11_odds 26 = .ok (.iconst 0, 1) := by decide +kernel
theorem dX11_odds_27 : decode cX11_odds 27 = .ok (.iconst 1, 1) := by decide +kernel
theorem dX11_odds_28 : decode cX11_odds 28 = .ok (.invokestatic 75, 3) := by decide +kernel
theorem dX11_odds_31 : decode cX11_odds 31 = .ok (.ifCond .ne 5, 3) := by decide +kernel
theorem dX11_odds_34 : decode cX11_odds 34 = .ok (.iconst (-1), 1) := by decide +kernel
theorem dX11_odds_35 : decode cX11_odds 35 = .ok (.ireturn, 1) := by decide +kernel
theorem dX11_odds_36 : decode cX11_odds 36 = .ok (.aload_n 0, 1) := by decide +kernel
theorem dX11_odds_37 : decode cX11_odds 37 = .ok (.iload_n 1, 1) := by decide +kernel
theorem dX11_odds_38 : decode cX11_odds 38 = .ok (.invokevirtual 137, 3) := by decide +kernel
theorem dX11_odds_41 : decode cX11_odds 41 = .ok (.ifCond .ne 6, 3) := by decide +kernel
theorem dX11_odds_44 : decode cX11_odds 44 = .ok (.bipush (-2), 2) := by decide +kernel
theorem dX11_odds_46 : decode cX11_odds 46 = .ok (.ireturn, 1) := by decide +kernel
theorem dX11_odds_47 : decode cX11_odds 47 = .ok (.aload_n 0, 1) := by decide +kernel
theorem dX11_odds_48 : decode cX11_odds 48 = .ok (.iload_n 1, 1) := by decide +kernel
theorem dX11_odds_49 : decode cX11_odds 49 = .ok (.invokevirtual 169, 3) := by decide +kernel
theorem dX11_odds_52 : decode cX11_odds 52 = .ok (.iload_n 2, 1) := by decide +kernel
theorem dX11_odds_53 : decode cX11_odds 53 = .ok (.if_icmp .ge 11, 3) := by decide +kernel
theorem dX11_odds_56 : decode cX11_odds 56 = .ok (.aload_n 0, 1) := by decide +kernel
theorem dX11_odds_57 : decode cX11_odds 57 = .ok (.iload_n 1, 1) := by decide +kernel
theorem dX11_odds_58 : decode cX11_odds 58 = .ok (.invokevirtual 169, 3) := by decide +kernel
theorem dX11_odds_61 : decode cX11_odds 61 = .ok (.goto 4, 3) := by decide +kernel
theorem dX11_odds_64 : decode cX11_odds 64 = .ok (.iload_n 2, 1) := by decide +kernel
theorem dX11_odds_65 : decode cX11_odds 65 = .ok (.istore 5, 2) := by decide +kernel
theorem dX11_odds_67 : decode cX11_odds 67 = .ok (.iconst 1, 1) := by decide +kernel
theorem dX11_odds_68 : decode cX11_odds 68 = .ok (.istore 6, 2) := by decide +kernel
theorem dX11_odds_70 : decode cX11_odds 70 = .ok (.iconst 1, 1) := by decide +kernel
theorem dX11_odds_71 : decode cX11_odds 71 = .ok (.istore 7, 2) := by decide +kernel
theorem dX11_odds_73 : decode cX11_odds 73 = .ok (.iconst 0, 1) := by decide +kernel
theorem dX11_odds_74 : decode cX11_odds 74 = .ok (.istore 8, 2) := by decide +kernel
theorem dX11_odds_76 : decode cX11_odds 76 = .ok (.iload 8, 2) := by decide +kernel
theorem dX11_odds_78 : decode cX11_odds 78 = .ok (.iload_n 3, 1) := by decide +kernel
theorem dX11_odds_79 : decode cX11_odds 79 = .ok (.if_icmp .ge 22, 3) := by decide +kernel
theorem dX11_odds_82 : decode cX11_odds 82 = .ok (.iload 6, 2) := by decide +kernel
theorem dX11_odds_84 : decode cX11_odds 84 = .ok (.iload 5, 2) := by decide +kernel
theorem dX11_odds_86 : decode cX11_odds 86 = .ok (.imul, 1) := by decide +kernel
theorem dX11_odds_87 : decode cX11_odds 87 = .ok (.istore 6, 2) := by decide +kernel
theorem dX11_odds_89 : decode cX11_odds 89 = .ok (.iload 7, 2) := by decide +kernel
theorem dX11_odds_91 : decode cX11_odds 91 = .ok (.iload_n 2, 1) := by decide +kernel
theorem dX11_odds_92 : decode cX11_odds 92 = .ok (.imul, 1) := by decide +kernel
theorem dX11_odds_93 : decode cX11_odds 93 = .ok (.istore 7, 2) := by decide +kernel
theorem dX11_odds_95 : decode cX11_odds 95 = .ok (.iinc 8 1, 3) := by decide +kernel
theorem dX11_odds_98 : decode cX11_odds 98 = .ok (.goto (-22), 3) := by decide +kernel
theorem dX11_odds_101 : decode cX11_odds 101 = .ok (.iload 6, 2) := by decide +kernel
theorem dX11_odds_103 : decode cX11_odds 103 = .ok (.istore 8, 2) := by decide +kernel
theorem dX11_odds_105 : decode cX11_odds 105 = .ok (.iload 7, 2) := by decide +kernel
theorem dX11_odds_107 : decode cX11_odds 107 = .ok (.istore 9, 2) := by decide +kernel
theorem dX11_odds_109 : decode cX11_odds 109 = .ok (.iload 9, 2) := by decide +kernel
theorem dX11_odds_111 : decode cX11_odds 111 = .ok (.ifCond .eq 21, 3) := by decide +kernel
theorem dX11_odds_114 : decode cX11_odds 114 = .ok (.iload 8, 2) := by decide +kernel
theorem dX11_odds_116 : decode cX11_odds 116 = .ok (.iload 9, 2) := by decide +kernel
theorem dX11_odds_118 : decode cX11_odds 118 = .ok (.irem, 1) := by decide +kernel
theorem dX11_odds_119 : decode cX11_odds 119 = .ok (.istore 10, 2) := by decide +kernel
theorem dX11_odds_121 : decode cX11_odds 121 = .ok (.iload 9, 2) := by decide +kernel
theorem dX11_odds_123 : decode cX11_odds 123 = .ok (.istore 8, 2) := by decide +kernel
theorem dX11_odds_125 : decode cX11_odds 125 = .ok (.iload 10, 2) := by decide +kernel
theorem dX11_odds_127 : decode cX11_odds 127 = .ok (.istore 9, 2) := by decide +kernel
theorem dX11_odds_129 : decode cX11_odds 129 = .ok (.goto (-20), 3) := by decide +kernel
theorem dX11_odds_132 : decode cX11_odds 132 = .ok (.iload 4, 2) := by decide +kernel
theorem dX11_odds_134 : decode cX11_odds 134 = .ok (.ifCond .ne 11, 3) := by decide +kernel
theorem dX11_odds_137 : decode cX11_odds 137 = .ok (.iload 6, 2) := by decide +kernel
theorem dX11_odds_139 : decode cX11_odds 139 = .ok (.iload 8, 2) := by decide +kernel
theorem dX11_odds_141 : decode cX11_odds 141 = .ok (.idiv, 1) := by decide +kernel
theorem dX11_odds_142 : decode cX11_odds 142 = .ok (.goto 8, 3) := by decide +kernel
theorem dX11_odds_145 : decode cX11_odds 145 = .ok (.iload 7, 2) := by decide +kernel
theorem dX11_odds_147 : decode cX11_odds 147 = .ok (.iload 8, 2) := by decide +kernel
theorem dX11_odds_149 : decode cX11_odds 149 = .ok (.idiv, 1) := by decide +kernel
theorem dX11_odds_150 : decode cX11_odds 150 = .ok (.ireturn, 1) := by decide +kernel
set_option maxRecDepth 20000 in
theorem ggX11_hears_X11_isStorm : GoodIn wsX11_hears wsX11_isStorm := goodIn_r _ [7, 8, 9, 6, 10] (by decide +kernel) (by decide +kernel)
set_option maxRecDepth 20000 in
theorem gX11_hears_X11_isStorm : GoodIn wsX11_hears (va_wsS RX11 172 yX11_isStorm wsX11_isStorm) := goodIn_app (goodIn_of _ (by decide +kernel)) ggX11_hears_X11_isStorm
set_option maxRecDepth 20000 in
theorem ggX11_hears_X11_in : GoodIn wsX11_hears wsX11_in := goodIn_r _ [10] (by decide +kernel) (by decide +kernel)
set_option maxRecDepth 20000 in
theorem gX11_hears_X11_in : GoodIn wsX11_hears (va_wsS RX11 75 yX11_in wsX11_in) := goodIn_app (goodIn_of _ (by decide +kernel)) ggX11_hears_X11_in
theorem dX11_hears_0 : decode cX11_hears 0 = .ok (.iload_n 1, 1) := by decide +kernel
theorem dX11_hears_1 : decode cX11_hears 1 = .ok (.invokestatic 172, 3) := by decide +kernel
theorem dX11_hears_4 : decode cX11_hears 4 = .ok (.ifCond .eq 12, 3) := by decide +kernel
theorem dX11_hears_7 : decode cX11_hears 7 = .ok (.iload_n 2, 1) := by decide +kernel
theorem dX11_hears_8 : decode cX11_hears 8 = .ok (.iconst 0, 1) := by decide +kernel
theorem dX11_hears_9 : decode cX11_hears 9 = .ok (.iconst 1, 1) := by decide +kernel
theorem dX11_hears_10 : decode cX11_hears 10 = .ok (.invokestatic 75, 3) := by decide +kernel
theorem dX11_hears_13 : decode cX11_hears 13 = .ok (.ifCond .ne 5, 3) := by decide +kernel
theorem dX11_hears_16 : decode cX11_hears 16 = .ok (.iconst (-1), 1) := by decide +kernel
theorem dX11_hears_17 : decode cX11_hears 17 = .ok (.ireturn, 1) := by decide +kernel
theorem dX11_hears_18 : decode cX11_hears 18 = .ok (.aload_n 0, 1) := by decide +kernel
theorem dX11_hears_19 : decode cX11_hears 19 = .ok (.getfield 131, 3) := by decide +kernel
theorem dX11_hears_22 : decode cX11_hears 22 = .ok (.bipush 6, 2) := by decide +kernel
theorem dX11_hears_24 : decode cX11_hears 24 = .ok (.if_icmp .ne 6, 3) := by decide +kernel
theorem dX11_hears_27 : decode cX11_hears 27 = .ok (.bipush (-3), 2) := by decide +kernel
theorem dX11_hears_29 : decode cX11_hears 29 = .ok (.ireturn, 1) := by decide +kernel
theorem dX11_hears_30 : decode cX11_hears 30 = .ok (.aload_n 0, 1) := by decide +kernel
theorem dX11_hears_31 : decode cX11_hears 31 = .ok (.getfield 69, 3) := by decide +kernel
theorem dX11_hears_34 : decode cX11_hears 34 = .ok (.aload_n 0, 1) := by decide +kernel
theorem dX11_hears_35 : decode cX11_hears 35 = .ok (.getfield 131, 3) := by decide +kernel
theorem dX11_hears_38 : decode cX11_hears 38 = .ok (.iload_n 1, 1) := by decide +kernel
theorem dX11_hears_39 : decode cX11_hears 39 = .ok (.iastore, 1) := by decide +kernel
theorem dX11_hears_40 : decode cX11_hears 40 = .ok (.aload_n 0, 1) := by decide +kernel
theorem dX11_hears_41 : decode cX11_hears 41 = .ok (.getfield 72, 3) := by decide +kernel
theorem dX11_hears_44 : decode cX11_hears 44 = .ok (.aload_n 0, 1) := by decide +kernel
theorem dX11_hears_45 : decode cX11_hears 45 = .ok (.getfield 131, 3) := by decide +kernel
theorem dX11_hears_48 : decode cX11_hears 48 = .ok (.iload_n 2, 1) := by decide +kernel
theorem dX11_hears_49 : decode cX11_hears 49 = .ok (.iastore, 1) := by decide +kernel
theorem dX11_hears_50 : decode cX11_hears 50 = .ok (.aload_n 0, 1) := by decide +kernel
theorem dX11_hears_51 : decode cX11_hears 51 = .ok (.dup, 1) := by decide +kernel
theorem dX11_hears_52 : decode cX11_hears 52 = .ok (.getfield 131, 3) := by decide +kernel
theorem dX11_hears_55 : decode cX11_hears 55 = .ok (.iconst 1, 1) := by decide +kernel
theorem dX11_hears_56 : decode cX11_hears 56 = .ok (.iadd, 1) := by decide +kernel
theorem dX11_hears_57 : decode cX11_hears 57 = .ok (.putfield 131, 3) := by decide +kernel
theorem dX11_hears_60 : decode cX11_hears 60 = .ok (.aload_n 0, 1) := by decide +kernel
theorem dX11_hears_61 : decode cX11_hears 61 = .ok (.getfield 131, 3) := by decide +kernel
theorem dX11_hears_64 : decode cX11_hears 64 = .ok (.ireturn, 1) := by decide +kernel
theorem dX11_forget_0 : decode cX11_forget 0 = .ok (.aload_n 0, 1) := by decide +kernel
theorem dX11_forget_1 : decode cX11_forget 1 = .ok (.getfield 131, 3) := by decide +kernel
theorem dX11_forget_4 : decode cX11_forget 4 = .ok (.istore_n 1, 1) := by decide +kernel
theorem dX11_forget_5 : decode cX11_forget 5 = .ok (.aload_n 0, 1) := by decide +kernel
theorem dX11_forget_6 : decode cX11_forget 6 = .ok (.iconst 0, 1) := by decide +kernel
theorem dX11_forget_7 : decode cX11_forget 7 = .ok (.putfield 131, 3) := by decide +kernel
theorem dX11_forget_10 : decode cX11_forget 10 = .ok (.iload_n 1, 1) := by decide +kernel
theorem dX11_forget_11 : decode cX11_forget 11 = .ok (.ireturn, 1) := by decide +kernel
set_option maxRecDepth 20000 in
theorem ggX11_fits_X11_isLying : GoodIn wsX11_fits wsX11_isLying := goodIn_r _ [9, 10, 22, 23, 24, 25, 26, 27, 28, 29, 30, 31, 32, 33, 34, 35, 36, 37, 38, 39, 40, 41, 42, 43, 44, 45, 46, 47, 48, 49, 50, 51] (by decide +kernel) (by decide +kernel)
set_option maxRecDepth 20000 in
theorem gX11_fits_X11_isLying : GoodIn wsX11_fits (wsV RX11 137 RX11 yX11_isLying wsX11_isLying) := goodIn_app (goodIn_of _ (by decide +kernel)) ggX11_fits_X11_isLying
set_option maxRecDepth 20000 in
theorem ggX11_fits_X11_strength : GoodIn wsX11_fits wsX11_strength := goodIn_r _ [14, 10, 15, 16, 17, 8, 18, 19, 20, 21, 22, 23, 24, 25, 26, 27, 28, 29, 30, 31, 32, 33, 34, 35, 36, 37, 38, 39, 40, 41, 42, 43, 44, 45, 46, 47, 48, 49, 50, 51] (by decide +kernel) (by decide +kernel)
set_option maxRecDepth 20000 in
theorem gX11_fits_X11_strength : GoodIn wsX11_fits (wsV RX11 140 RX11 yX11_strength wsX11_strength) := goodIn_app (goodIn_of _ (by decide +kernel)) ggX11_fits_X11_strength
theorem dX11_fits_0 : decode cX11_fits 0 = .ok (.iconst 0, 1) := by decide +kernel
theorem dX11_fits_1 : decode cX11_fits 1 = .ok (.istore_n 1, 1) := by decide +kernel
theorem dX11_fits_2 : decode cX11_fits 2 = .ok (.iconst 0, 1) := by decide +kernel
theorem dX11_fits_3 : decode cX11_fits 3 = .ok (.istore_n 2, 1) := by decide +kernel
theorem dX11_fits_4 : decode cX11_fits 4 = .ok (.iload_n 2, 1) := by decide +kernel
theorem dX11_fits_5 : decode cX11_fits 5 = .ok (.aload_n 0, 1) := by decide +kernel
theorem dX11_fits_6 : decode cX11_fits 6 = .ok (.getfield 29, 3) := by decide +kernel
theorem dX11_fits_9 : decode cX11_fits 9 = .ok (.iconst 0, 1) := by decide +kernel
theorem dX11_fits_10 : decode cX11_fits 10 = .ok (.iaload, 1) := by decide +kernel
theorem dX11_fits_11 : decode cX11_fits 11 = .ok (.if_icmp .ge 96, 3) := by decide +kernel
theorem dX11_fits_14 : decode cX11_fits 14 = .ok (.aload_n 0, 1) := by decide +kernel
theorem dX11_fits_15 : decode cX11_fits 15 = .ok (.iload_n 2, 1) := by decide +kernel
theorem dX11_fits_16 : decode cX11_fits 16 = .ok (.invokevirtual 137, 3) := by decide +kernel
theorem dX11_fits_19 : decode cX11_fits 19 = .ok (.istore_n 3, 1) := by decide +kernel
theorem dX11_fits_20 : decode cX11_fits 20 = .ok (.iconst 0, 1) := by decide +kernel
theorem dX11_fits_21 : decode cX11_fits 21 = .ok (.istore 4, 2) := by decide +kernel
theorem dX11_fits_23 : decode cX11_fits 23 = .ok (.iload 4, 2) := by decide +kernel
theorem dX11_fits_25 : decode cX11_fits 25 = .ok (.aload_n 0, 1) := by decide +kernel
theorem dX11_fits_26 : decode cX11_fits 26 = .ok (.getfield 131, 3) := by decide +kernel
theorem dX11_fits_29 : decode cX11_fits 29 = .ok (.if_icmp .ge 58, 3) := by decide +kernel
theorem dX11_fits_32 : decode cX11_fits 32 = .ok (.iload_n 3, 1) := by decide +kernel
theorem dX11_fits_33 : decode cX11_fits 33 = .ok (.ifCond .eq 46, 3) := by decide +kernel
theorem dX11_fits_36 : decode cX11_fits 36 = .ok (.aload_n 0, 1) := by decide +kernel
theorem dX11_fits_37 : decode cX11_fits 37 = .ok (.iload_n 2, 1) := by decide +kernel
theorem dX11_fits_38 : decode cX11_fits 38 = .ok (.invokevirtual 140, 3) := by decide +kernel
theorem dX11_fits_41 : decode cX11_fits 41 = .ok (.aload_n 0, 1) := by decide +kernel
theorem dX11_fits_42 : decode cX11_fits 42 = .ok (.getfield 69, 3) := by decide +kernel
theorem dX11_fits_45 : decode cX11_fits 45 = .ok (.iload 4, 2) := by decide +kernel
theorem dX11_fits_47 : decode cX11_fits 47 = .ok (.iaload, 1) := by decide +kernel
theorem dX11_fits_48 : decode cX11_fits 48 = .ok (.if_icmp .lt 7, 3) := by decide +kernel
theorem dX11_fits_51 : decode cX11_fits 51 = .ok (.iconst 1, 1) := by decide +kernel
theorem dX11_fits_52 : decode cX11_fits 52 = .ok (.goto 4, 3) := by decide +kernel
theorem dX11_fits_55 : decode cX11_fits 55 = .ok (.iconst 0, 1) := by decide +kernel
theorem dX11_fits_56 : decode cX11_fits 56 = .ok (.aload_n 0, 1) := by decide +kernel
theorem dX11_fits_57 : decode cX11_fits 57 = .ok (.getfield 72, 3) := by decide +kernel
theorem dX11_fits_60 : decode cX11_fits 60 = .ok (.iload 4, 2) := by decide +kernel
theorem dX11_fits_62 : decode cX11_fits 62 = .ok (.iaload, 1) := by decide +kernel
theorem dX11_fits_63 : decode cX11_fits 63 = .ok (.iconst 1, 1) := by decide +kernel
theorem dX11_fits_64 : decode cX11_fits 64 = .ok (.if_icmp .ne 7, 3) := by decide +kernel
theorem dX11_fits_67 : decode cX11_fits 67 = .ok (.iconst 1, 1) := by decide +kernel
theorem dX11_fits_68 : decode cX11_fits 68 = .ok (.goto 4, 3) := by decide +kernel
theorem dX11_fits_71 : decode cX11_fits 71 = .ok (.iconst 0, 1) := by decide +kernel
theorem dX11_fits_72 : decode cX11_fits 72 = .ok (.if_icmp .ne 7, 3) := by decide +kernel
theorem dX11_fits_75 : decode cX11_fits 75 = .ok (.iconst 1, 1) := by decide +kernel
theorem dX11_fits_76 : decode cX11_fits 76 = .ok (.goto 4, 3) := by decide +kernel
theorem dX11_fits_79 : decode cX11_fits 79 = .ok (.iconst 0, 1) := by decide +kernel
theorem dX11_fits_80 : decode cX11_fits 80 = .ok (.istore_n 3, 1) := by decide +kernel
theorem dX11_fits_81 : decode cX11_fits 81 = .ok (.iinc 4 1, 3) := by decide +kernel
theorem dX11_fits_84 : decode cX11_fits 84 = .ok (.goto (-61), 3) := by decide +kernel
theorem dX11_fits_87 : decode cX11_fits 87 = .ok (.iload_n 1, 1) := by decide +kernel
theorem dX11_fits_88 : decode cX11_fits 88 = .ok (.iload_n 3, 1) := by decide +kernel
theorem dX11_fits_89 : decode cX11_fits 89 = .ok (.ifCond .eq 9, 3) := by decide +kernel
theorem dX11_fits_92 : decode cX11_fits 92 = .ok (.iconst 1, 1) := by decide +kernel
theorem dX11_fits_93 : decode cX11_fits 93 = .ok (.iload_n 2, 1) := by decide +kernel
theorem dX11_fits_94 : decode cX11_fits 94 = .ok (.ishl, 1) := by decide +kernel
theorem dX11_fits_95 : decode cX11_fits 95 = .ok (.goto 4, 3) := by decide +kernel
theorem dX11_fits_98 : decode cX11_fits 98 = .ok (.iconst 0, 1) := by decide +kernel
theorem dX11_fits_99 : decode cX11_fits 99 = .ok (.ior, 1) := by decide +kernel
theorem dX11_fits_100 : decode cX11_fits 100 = .ok (.istore_n 1, 1) := by decide +kernel
theorem dX11_fits_101 : decode cX11_fits 101 = .ok (.iinc 2 1, 3) := by decide +kernel
theorem dX11_fits_104 : decode cX11_fits 104 = .ok (.goto (-100), 3) := by decide +kernel
theorem dX11_fits_107 : decode cX11_fits 107 = .ok (.iload_n 1, 1) := by decide +kernel
theorem dX11_fits_108 : decode cX11_fits 108 = .ok (.ireturn, 1) := by decide +kernel
set_option maxRecDepth 20000 in
theorem ggX11_ask_X11_fits : GoodIn wsX11_ask wsX11_fits := goodIn_r _ [6, 1, 7, 8, 9, 10, 11, 12, 5, 13, 14, 15, 16, 17, 18, 19, 20, 21, 22, 23, 24, 25, 32, 33, 34, 35, 36, 37, 38, 39, 40, 41, 42, 43, 44, 45, 46, 47, 48, 49, 50, 51, 52, 53, 54, 55, 56, 57, 58, 59, 60, 61] (by decide +kernel) (by decide +kernel)
set_option maxRecDepth 20000 in
theorem gX11_ask_X11_fits : GoodIn wsX11_ask (wsV RX11 194 RX11 yX11_fits wsX11_fits) := goodIn_app (goodIn_of _ (by decide +kernel)) ggX11_ask_X11_fits
set_option maxRecDepth 20000 in
theorem ggX11_ask_X11_bitsOf : GoodIn wsX11_ask wsX11_bitsOf := goodIn_r _ [28] (by decide +kernel) (by decide +kernel)
set_option maxRecDepth 20000 in
theorem gX11_ask_X11_bitsOf : GoodIn wsX11_ask (va_wsS RX11 184 yX11_bitsOf wsX11_bitsOf) := goodIn_app (goodIn_of _ (by decide +kernel)) ggX11_ask_X11_bitsOf
set_option maxRecDepth 20000 in
theorem ggX11_ask_X11_has : GoodIn wsX11_ask wsX11_has := goodIn_r _ [31] (by decide +kernel) (by decide +kernel)
set_option maxRecDepth 20000 in
theorem gX11_ask_X11_has : GoodIn wsX11_ask (va_wsS RX11 144 yX11_has wsX11_has) := goodIn_app (goodIn_of _ (by decide +kernel)) ggX11_ask_X11_has
set_option maxRecDepth 20000 in
theorem ggX11_ask_X11_strength : GoodIn wsX11_ask wsX11_strength := goodIn_r _ [18, 14, 19, 20, 21, 5, 22, 23, 24, 25, 32, 33, 34, 35, 36, 37, 38, 39, 40, 41, 42, 43, 44, 45, 46, 47, 48, 49, 50, 51, 52, 53, 54, 55, 56, 57, 58, 59, 60, 61] (by decide +kernel) (by decide +kernel)
set_option maxRecDepth 20000 in
theorem gX11_ask_X11_strength : GoodIn wsX11_ask (wsV RX11 140 RX11 yX11_strength wsX11_strength) := goodIn_app (goodIn_of _ (by decide +kernel)) ggX11_ask_X11_strength
theorem dX11_ask_0 : decode cX11_ask 0 = .ok (.aload_n 0, 1) := by decide +kernel
theorem dX11_ask_1 : decode cX11_ask 1 = .ok (.invokevirtual 194, 3) := by decide +kernel
theorem dX11_ask_4 : decode cX11_ask 4 = .ok (.istore_n 1, 1) := by decide +kernel
theorem dX11_ask_5 : decode cX11_ask 5 = .ok (.bipush (-9), 2) := by decide +kernel
theorem dX11_ask_7 : decode cX11_ask 7 = .ok (.istore_n 2, 1) := by decide +kernel
theorem dX11_ask_8 : decode cX11_ask 8 = .ok (.iload_n 1, 1) := by decide +kernel
theorem dX11_ask_9 : decode cX11_ask 9 = .ok (.invokestatic 184, 3) := by decide +kernel
theorem dX11_ask_12 : decode cX11_ask 12 = .ok (.istore_n 3, 1) := by decide +kernel
theorem dX11_ask_13 : decode cX11_ask 13 = .ok (.iconst 1, 1) := by decide +kernel
theorem dX11_ask_14 : decode cX11_ask 14 = .ok (.istore 4, 2) := by decide +kernel
theorem dX11_ask_16 : decode cX11_ask 16 = .ok (.iload 4, 2) := by decide +kernel
theorem dX11_ask_18 : decode cX11_ask 18 = .ok (.bipush 99, 2) := by decide +kernel
theorem dX11_ask_20 : decode cX11_ask 20 = .ok (.if_icmp .gt 100, 3) := by decide +kernel
theorem dX11_ask_23 : decode cX11_ask 23 = .ok (.iconst 0, 1) := by decide +kernel
theorem dX11_ask_24 : decode cX11_ask 24 = .ok (.istore 5, 2) := by decide +kernel
theorem dX11_ask_26 : decode cX11_ask 26 = .ok (.iconst 0, 1) := by decide +kernel
theorem dX11_ask_27 : decode cX11_ask 27 = .ok (.istore 6, 2) := by decide +kernel
theorem dX11_ask_29 : decode cX11_ask 29 = .ok (.iload 6, 2) := by decide +kernel
theorem dX11_ask_31 : decode cX11_ask 31 = .ok (.aload_n 0, 1) := by decide +kernel
theorem dX11_ask_32 : decode cX11_ask 32 = .ok (.getfield 29, 3) := by decide +kernel
theorem dX11_ask_35 : decode cX11_ask 35 = .ok (.iconst 0, 1) := by decide +kernel
theorem dX11_ask_36 : decode cX11_ask 36 = .ok (.iaload, 1) := by decide +kernel
theorem dX11_ask_37 : decode cX11_ask 37 = .ok (.if_icmp .ge 39, 3) := by decide +kernel
theorem dX11_ask_40 : decode cX11_ask 40 = .ok (.iload 5, 2) := by decide +kernel
theorem dX11_ask_42 : decode cX11_ask 42 = .ok (.iload_n 1, 1) := by decide +kernel
theorem dX11_ask_43 : decode cX11_ask 43 = .ok (.iload 6, 2) := by decide +kernel
theorem dX11_ask_45 : decode cX11_ask 45 = .ok (.invokestatic 144, 3) := by decide +kernel
theorem dX11_ask_48 : decode cX11_ask 48 = .ok (.ifCond .eq 18, 3) := by decide +kernel
theorem dX11_ask_51 : decode cX11_ask 51 = .ok (.aload_n 0, 1) := by decide +kernel
theorem dX11_ask_52 : decode cX11_ask 52 = .ok (.iload 6, 2) := by decide +kernel
theorem dX11_ask_54 : decode cX11_ask 54 = .ok (.invokevirtual 140, 3) := by decide +kernel
theorem dX11_ask_57 : decode cX11_ask 57 = .ok (.iload 4, 2) := by decide +kernel
theorem dX11_ask_59 : decode cX11_ask 59 = .ok (.if_icmp .lt 7, 3) := by decide +kernel
theorem dX11_ask_62 : decode cX11_ask 62 = .ok (.iconst 1, 1) := by decide +kernel
theorem dX11_ask_63 : decode cX11_ask 63 = .ok (.goto 4, 3) := by decide +kernel
theorem dX11_ask_66 : decode cX11_ask 66 = .ok (.iconst 0, 1) := by decide +kernel
theorem dX11_ask_67 : decode cX11_ask 67 = .ok (.iadd, 1) := by decide +kernel
theorem dX11_ask_68 : decode cX11_ask 68 = .ok (.istore 5, 2) := by decide +kernel
theorem dX11_ask_70 : decode cX11_ask 70 = .ok (.iinc 6 1, 3) := by decide +kernel
theorem dX11_ask_73 : decode cX11_ask 73 = .ok (.goto (-44), 3) := by decide +kernel
theorem dX11_ask_76 : decode cX11_ask 76 = .ok (.iload_n 1, 1) := by decide +kernel
theorem dX11_ask_77 : decode cX11_ask 77 = .ok (.invokestatic 184, 3) := by decide +kernel
theorem dX11_ask_80 : decode cX11_ask 80 = .ok (.iload 5, 2) := by decide +kernel
theorem dX11_ask_82 : decode cX11_ask 82 = .ok (.isub, 1) := by decide +kernel
theorem dX11_ask_83 : decode cX11_ask 83 = .ok (.iload 5, 2) := by decide +kernel
theorem dX11_ask_85 : decode cX11_ask 85 = .ok (.if_icmp .le 13, 3) := by decide +kernel
theorem dX11_ask_88 : decode cX11_ask 88 = .ok (.iload_n 1, 1) := by decide +kernel
theorem dX11_ask_89 : decode cX11_ask 89 = .ok (.invokestatic 184, 3) := by decide +kernel
theorem dX11_ask_92 : decode cX11_ask 92 = .ok (.iload 5, 2) := by decide +kernel
theorem dX11_ask_94 : decode cX11_ask 94 = .ok (.isub, 1) := by decide +kernel
theorem dX11_ask_95 : decode cX11_ask 95 = .ok (.goto 5, 3) := by decide +kernel
theorem dX11_ask_98 : decode cX11_ask 98 = .ok (.iload 5, 2) := by decide +kernel
theorem dX11_ask_100 : decode cX11_ask 100 = .ok (.istore 6, 2) := by decide +kernel
theorem dX11_ask_102 : decode cX11_ask 102 = .ok (.iload 6, 2) := by decide +kernel
theorem dX11_ask_104 : decode cX11_ask 104 = .ok (.iload_n 3, 1) := by decide +kernel
theorem dX11_ask_105 : decode cX11_ask 105 = .ok (.if_icmp .ge 9, 3) := by decide +kernel
theorem dX11_ask_108 : decode cX11_ask 108 = .ok (.iload 4, 2) := by decide +kernel
theorem dX11_ask_110 : decode cX11_ask 110 = .ok (.istore_n 2, 1) := by decide +kernel
theorem dX11_ask_111 : decode cX11_ask 111 = .ok (.iload 6, 2) := by decide +kernel
theorem dX11_ask_113 : decode cX11_ask 113 = .ok (.istore_n 3, 1) := by decide +kernel
theorem dX11_ask_114 : decode cX11_ask 114 = .ok (.iinc 4 1, 3) := by decide +kernel
theorem dX11_ask_117 : decode cX11_ask 117 = .ok (.goto (-101), 3) := by decide +kernel
theorem dX11_ask_120 : decode cX11_ask 120 = .ok (.iload_n 2, 1) := by decide +kernel
theorem dX11_ask_121 : decode cX11_ask 121 = .ok (.ireturn, 1) := by decide +kernel
theorem dX11_bodiesOf_0 : decode cX11_bodiesOf 0 = .ok (.iload_n 0, 1) := by decide +kernel
theorem dX11_bodiesOf_1 : decode cX11_bodiesOf 1 = .ok (.tableswitch 47 0 4 #[35, 37, 39, 41, 44], 35) := by decide +kernel
theorem dX11_bodiesOf_36 : decode cX11_bodiesOf 36 = .ok (.iconst 1, 1) := by decide +kernel
theorem dX11_bodiesOf_37 : decode cX11_bodiesOf 37 = .ok (.ireturn, 1) := by decide +kernel
theorem dX11_bodiesOf_38 : decode cX11_bodiesOf 38 = .ok (.iconst 3, 1) := by decide +kernel
theorem dX11_bodiesOf_39 : decode cX11_bodiesOf 39 = .ok (.ireturn, 1) := by decide +kernel
theorem dX11_bodiesOf_40 : decode cX11_bodiesOf 40 = .ok (.iconst 5, 1) := by decide +kernel
theorem dX11_bodiesOf_41 : decode cX11_bodiesOf 41 = .ok (.ireturn, 1) := by decide +kernel
theorem dX11_bodiesOf_42 : decode cX11_bodiesOf 42 = .ok (.bipush 11, 2) := by decide +kernel
theorem dX11_bodiesOf_44 : decode cX11_bodiesOf 44 = .ok (.ireturn, 1) := by decide +kernel
theorem dX11_bodiesOf_45 : decode cX11_bodiesOf 45 = .ok (.bipush 21, 2) := by decide +kernel
theorem dX11_bodiesOf_47 : decode cX11_bodiesOf 47 = .ok (.ireturn, 1) := by decide +kernel
theorem dX11_bodiesOf_48 : decode cX11_bodiesOf 48 = .ok (.bipush 33, 2) := by decide +kernel
theorem dX11_bodiesOf_50 : decode cX11_bodiesOf 50 = .ok (.ireturn, 1) := by decide +kernel
set_option maxRecDepth 20000 in
theorem ggX11_mark_X11_in : GoodIn wsX11_mark wsX11_in := goodIn_r _ [10] (by decide +kernel) (by decide +kernel)
set_option maxRecDepth 20000 in
theorem gX11_mark_X11_in : GoodIn wsX11_mark (va_wsS RX11 75 yX11_in wsX11_in) := goodIn_app (goodIn_of _ (by decide +kernel)) ggX11_mark_X11_in
set_option maxRecDepth 20000 in
theorem ggX11_mark_X11_isAnchor : GoodIn wsX11_mark wsX11_isAnchor := goodIn_r _ [14, 15, 7, 8, 9, 10, 33, 34, 35, 36, 37, 38, 39, 40, 41, 42, 43, 44, 45, 46, 47, 48, 49, 50, 51, 52, 53, 54, 55, 56, 57, 58, 59, 60, 61, 62] (by decide +kernel) (by decide +kernel)
set_option maxRecDepth 20000 in
theorem gX11_mark_X11_isAnchor : GoodIn wsX11_mark (wsV RX11 166 RX11 yX11_isAnchor wsX11_isAnchor) := goodIn_app (goodIn_of _ (by decide +kernel)) ggX11_mark_X11_isAnchor
set_option maxRecDepth 20000 in
theorem ggX11_mark_X11_bodiesOf : GoodIn wsX11_mark wsX11_bodiesOf := goodIn_r _ [18] (by decide +kernel) (by decide +kernel)
set_option maxRecDepth 20000 in
theorem gX11_mark_X11_bodiesOf : GoodIn wsX11_mark (va_wsS RX11 198 yX11_bodiesOf wsX11_bodiesOf) := goodIn_app (goodIn_of _ (by decide +kernel)) ggX11_mark_X11_bodiesOf
set_option maxRecDepth 20000 in
theorem ggX11_mark_X11_has : GoodIn wsX11_mark wsX11_has := goodIn_r _ [21] (by decide +kernel) (by decide +kernel)
set_option maxRecDepth 20000 in
theorem gX11_mark_X11_has : GoodIn wsX11_mark (va_wsS RX11 144 yX11_has wsX11_has) := goodIn_app (goodIn_of _ (by decide +kernel)) ggX11_mark_X11_has
set_option maxRecDepth 20000 in
theorem ggX11_mark_X11_strength : GoodIn wsX11_mark wsX11_strength := goodIn_r _ [25, 5, 26, 27, 28, 9, 29, 30, 31, 32, 33, 34, 35, 36, 37, 38, 39, 40, 41, 42, 43, 44, 45, 46, 47, 48, 49, 50, 51, 52, 53, 54, 55, 56, 57, 58, 59, 60, 61, 62] (by decide +kernel) (by decide +kernel)
set_option maxRecDepth 20000 in
theorem gX11_mark_X11_strength : GoodIn wsX11_mark (wsV RX11 140 RX11 yX11_strength wsX11_strength) := goodIn_app (goodIn_of _ (by decide +kernel)) ggX11_mark_X11_strength
theorem dX11_mark_0 : decode cX11_mark 0 = .ok (.iload_n 1, 1) := by decide +kernel
theorem dX11_mark_1 : decode cX11_mark 1 = .ok (.iconst 0, 1) := by decide +kernel
theorem dX11_mark_2 : decode cX11_mark 2 = .ok (.iconst 5, 1) := by decide +kernel
theorem dX11_mark_3 : decode cX11_mark 3 = .ok (.invokestatic 75, 3) := by decide +kernel
theorem dX11_mark_6 : decode cX11_mark 6 = .ok (.ifCond .eq 11, 3) := by decide +kernel
theorem dX11_mark_9 : decode cX11_mark 9 = .ok (.aload_n 0, 1) := by decide +kernel
theorem dX11_mark_10 : decode cX11_mark 10 = .ok (.iload_n 2, 1) := by decide +kernel
theorem dX11_mark_11 : decode cX11_mark 11 = .ok (.invokevirtual 166, 3) := by decide +kernel
theorem dX11_mark_14 : decode cX11_mark 14 = .ok (.ifCond .ne 6, 3) := by decide +kernel
theorem dX11_mark_17 : decode cX11_mark 17 = .ok (.ldc 197, 2) := by decide +kernel
theorem dX11_mark_19 : decode cX11_mark 19 = .ok (.ireturn, 1) := by decide +kernel
theorem dX11_mark_20 : decode cX11_mark 20 = .ok (.iload_n 1, 1) := by decide +kernel
theorem dX11_mark_21 : decode cX11_mark 21 = .ok (.invokestatic 198, 3) := by decide +kernel
theorem dX11_mark_24 : decode cX11_mark 24 = .ok (.istore_n 3, 1) := by decide +kernel
theorem dX11_mark_25 : decode cX11_mark 25 = .ok (.lconst 1, 1) := by decide +kernel
theorem dX11_mark_26 : decode cX11_mark 26 = .ok (.lstore 4, 2) := by decide +kernel
theorem dX11_mark_28 : decode cX11_mark 28 = .ok (.iconst 0, 1) := by decide +kernel
theorem dX11_mark_29 : decode cX11_mark 29 = .ok (.istore 6, 2) := by decide +kernel
theorem dX11_mark_31 : decode cX11_mark 31 = .ok (.iload 6, 2) := by decide +kernel
theorem dX11_mark_33 : decode cX11_mark 33 = .ok (.bipush 6, 2) := by decide +kernel
theorem dX11_mark_35 : decode cX11_mark 35 = .ok (.if_icmp .ge 41, 3) := by decide +kernel
theorem dX11_mark_38 : decode cX11_mark 38 = .ok (.aload_n 0, 1) := by decide +kernel
theorem dX11_mark_39 : decode cX11_mark 39 = .ok (.dup, 1) := by decide +kernel
theorem dX11_mark_40 : decode cX11_mark 40 = .ok (.getfield 201, 3) := by decide +kernel
theorem dX11_mark_43 : decode cX11_mark 43 = .ok (.iload_n 3, 1) := by decide +kernel
theorem dX11_mark_44 : decode cX11_mark 44 = .ok (.iload 6, 2) := by decide +kernel
theorem dX11_mark_46 : decode cX11_mark 46 = .ok (.invokestatic 144, 3) := by decide +kernel
theorem dX11_mark_49 : decode cX11_mark 49 = .ok (.ifCond .eq 8, 3) := by decide +kernel
theorem dX11_mark_52 : decode cX11_mark 52 = .ok (.lload 4, 2) := by decide +kernel
theorem dX11_mark_54 : decode cX11_mark 54 = .ok (.goto 4, 3) := by decide +kernel
theorem dX11_mark_57 : decode cX11_mark 57 = .ok (.lconst 0, 1) := by decide +kernel
theorem dX11_mark_58 : decode cX11_mark 58 = .ok (.ladd, 1) := by decide +kernel
theorem dX11_mark_59 : decode cX11_mark 59 = .ok (.putfield 201, 3) := by decide +kernel
theorem dX11_mark_62 : decode cX11_mark 62 = .ok (.lload 4, 2) := by decide +kernel
theorem dX11_mark_64 : decode cX11_mark 64 = .ok (.ldc2_w 205, 3) := by decide +kernel
theorem dX11_mark_67 : decode cX11_mark 67 = .ok (.lmul, 1) := by decide +kernel
theorem dX11_mark_68 : decode cX11_mark 68 = .ok (.lstore 4, 2) := by decide +kernel
theorem dX11_mark_70 : decode cX11_mark 70 = .ok (.iinc 6 1, 3) := by decide +kernel
theorem dX11_mark_73 : decode cX11_mark 73 = .ok (.goto (-42), 3) := by decide +kernel
theorem dX11_mark_76 : decode cX11_mark 76 = .ok (.aload_n 0, 1) := by decide +kernel
theorem dX11_mark_77 : decode cX11_mark 77 = .ok (.iload_n 2, 1) := by decide +kernel
theorem dX11_mark_78 : decode cX11_mark 78 = .ok (.invokevirtual 140, 3) := by decide +kernel
theorem dX11_mark_81 : decode cX11_mark 81 = .ok (.istore 6, 2) := by decide +kernel
theorem dX11_mark_83 : decode cX11_mark 83 = .ok (.iload 6, 2) := by decide +kernel
theorem dX11_mark_85 : decode cX11_mark 85 = .ok (.iload_n 3, 1) := by decide +kernel
theorem dX11_mark_86 : decode cX11_mark 86 = .ok (.iconst 1, 1) := by decide +kernel
theorem dX11_mark_87 : decode cX11_mark 87 = .ok (.invokestatic 144, 3) := by decide +kernel
theorem dX11_mark_90 : decode cX11_mark 90 = .ok (.ifCond .eq 12, 3) := by decide +kernel
theorem dX11_mark_93 : decode cX11_mark 93 = .ok (.aload_n 0, 1) := by decide +kernel
theorem dX11_mark_94 : decode cX11_mark 94 = .ok (.getfield 44, 3) := by decide +kernel
theorem dX11_mark_97 : decode cX11_mark 97 = .ok (.iload_n 2, 1) := by decide +kernel
theorem dX11_mark_98 : decode cX11_mark 98 = .ok (.iaload, 1) := by decide +kernel
theorem dX11_mark_99 : decode cX11_mark 99 = .ok (.goto 4, 3) := by decide +kernel
theorem dX11_mark_102 : decode cX11_mark 102 = .ok (.iconst 0, 1) := by decide +kernel
theorem dX11_mark_103 : decode cX11_mark 103 = .ok (.iadd, 1) := by decide +kernel
theorem dX11_mark_104 : decode cX11_mark 104 = .ok (.istore 6, 2) := by decide +kernel
theorem dX11_mark_106 : decode cX11_mark 106 = .ok (.iload 6, 2) := by decide +kernel
theorem dX11_mark_108 : decode cX11_mark 108 = .ok (.iload_n 3, 1) := by decide +kernel
theorem dX11_mark_109 : decode cX11_mark 109 = .ok (.iconst 2, 1) := by decide +kernel
theorem dX11_mark_110 : decode cX11_mark 110 = .ok (.invokestatic 144, 3) := by decide +kernel
theorem dX11_mark_113 : decode cX11_mark 113 = .ok (.ifCond .eq 15, 3) := by decide +kernel
theorem dX11_mark_116 : decode cX11_mark 116 = .ok (.aload_n 0, 1) := by decide +kernel
theorem dX11_mark_117 : decode cX11_mark 117 = .ok (.getfield 47, 3) := by decide +kernel
theorem dX11_mark_120 : decode cX11_mark 120 = .ok (.bipush 16, 2) := by decide +kernel
theorem dX11_mark_122 : decode cX11_mark 122 = .ok (.iload_n 2, 1) := by decide +kernel
theorem dX11_mark_123 : decode cX11_mark 123 = .ok (.iadd, 1) := by decide +kernel
theorem dX11_mark_124 : decode cX11_mark 124 = .ok (.iaload, 1) := by decide +kernel
theorem dX11_mark_125 : decode cX11_mark 125 = .ok (.goto 4, 3) := by decide +kernel
theorem dX11_mark_128 : decode cX11_mark 128 = .ok (.iconst 0, 1) := by decide +kernel
theorem dX11_mark_129 : decode cX11_mark 129 = .ok (.isub, 1) := by decide +kernel
theorem dX11_mark_130 : decode cX11_mark 130 = .ok (.istore 6, 2) := by decide +kernel
theorem dX11_mark_132 : decode cX11_mark 132 = .ok (.iload_n 3, 1) := by decide +kernel
theorem dX11_mark_133 : decode cX11_mark 133 = .ok (.iconst 3, 1) := by decide +kernel
theorem dX11_mark_134 : decode cX11_mark 134 = .ok (.invokestatic 144, 3) := by decide +kernel
theorem dX11_mark_137 : decode cX11_mark 137 = .ok (.ifCond .eq 10, 3) := by decide +kernel
theorem dX11_mark_140 : decode cX11_mark 140 = .ok (.iconst 2, 1) := by decide +kernel
theorem dX11_mark_141 : decode cX11_mark 141 = .ok (.iload 6, 2) := by decide +kernel
theorem dX11_mark_143 : decode cX11_mark 143 = .ok (.imul, 1) := by decide +kernel
theorem dX11_mark_144 : decode cX11_mark 144 = .ok (.goto 5, 3) := by decide +kernel
theorem dX11_mark_147 : decode cX11_mark 147 = .ok (.iload 6, 2) := by decide +kernel
theorem dX11_mark_149 : decode cX11_mark 149 = .ok (.istore 6, 2) := by decide +kernel
theorem dX11_mark_151 : decode cX11_mark 151 = .ok (.iload 6, 2) := by decide +kernel
theorem dX11_mark_153 : decode cX11_mark 153 = .ok (.iload_n 3, 1) := by decide +kernel
theorem dX11_mark_154 : decode cX11_mark 154 = .ok (.iconst 4, 1) := by decide +kernel
theorem dX11_mark_155 : decode cX11_mark 155 = .ok (.invokestatic 144, 3) := by decide +kernel
theorem dX11_mark_158 : decode cX11_mark 158 = .ok (.ifCond .eq 7, 3) := by decide +kernel
theorem dX11_mark_161 : decode cX11_mark 161 = .ok (.iload_n 2, 1) := by decide +kernel
theorem dX11_mark_162 : decode cX11_mark 162 = .ok (.goto 4, 3) := by decide +kernel
theorem dX11_mark_165 : decode cX11_mark 165 = .ok (.iconst 0, 1) := by decide +kernel
theorem dX11_mark_166 : decode cX11_mark 166 = .ok (.iadd, 1) := by decide +kernel
theorem dX11_mark_167 : decode cX11_mark 167 = .ok (.istore 6, 2) := by decide +kernel
theorem dX11_mark_169 : decode cX11_mark 169 = .ok (.iload 6, 2) := by decide +kernel
theorem dX11_mark_171 : decode cX11_mark 171 = .ok (.iload_n 3, 1) := by decide +kernel
theorem dX11_mark_172 : decode cX11_mark 172 = .ok (.iconst 5, 1) := by decide +kernel
theorem dX11_mark_173 : decode cX11_mark 173 = .ok (.invokestatic 144, 3) := by decide +kernel
theorem dX11_mark_176 : decode cX11_mark 176 = .ok (.ifCond .eq 20, 3) := by decide +kernel
theorem dX11_mark_179 : decode cX11_mark 179 = .ok (.aload_n 0, 1) := by decide +kernel
theorem dX11_mark_180 : decode cX11_mark 180 = .ok (.getfield 47, 3) := by decide +kernel
theorem dX11_mark_183 : decode cX11_mark 183 = .ok (.bipush 39, 2) := by decide +kernel
theorem dX11_mark_185 : decode cX11_mark 185 = .ok (.aload_n 0, 1) := by decide +kernel
theorem dX11_mark_186 : decode cX11_mark 186 = .ok (.getfield 32, 3) := by decide +kernel
theorem dX11_mark_189 : decode cX11_mark 189 = .ok (.iload_n 2, 1) := by decide +kernel
theorem dX11_mark_190 : decode cX11_mark 190 = .ok (.iaload, 1) := by decide +kernel
theorem dX11_mark_191 : decode cX11_mark 191 = .ok (.iadd, 1) := by decide +kernel
theorem dX11_mark_192 : decode cX11_mark 192 = .ok (.iaload, 1) := by decide +kernel
theorem dX11_mark_193 : decode cX11_mark 193 = .ok (.goto 4, 3) := by decide +kernel
theorem dX11_mark_196 : decode cX11_mark 196 = .ok (.iconst 0, 1) := by decide +kernel
theorem dX11_mark_197 : decode cX11_mark 197 = .ok (.iadd, 1) := by decide +kernel
theorem dX11_mark_198 : decode cX11_mark 198 = .ok (.istore 6, 2) := by decide +kernel
theorem dX11_mark_200 : decode cX11_mark 200 = .ok (.iload 6, 2) := by decide +kernel
theorem dX11_mark_202 : decode cX11_mark 202 = .ok (.ireturn, 1) := by decide +kernel
theorem dX11_trace_0 : decode cX11_trace 0 = .ok (.aload_n 0, 1) := by decide +kernel
theorem dX11_trace_1 : decode cX11_trace 1 = .ok (.getfield 201, 3) := by decide +kernel
theorem dX11_trace_4 : decode cX11_trace 4 = .ok (.lreturn, 1) := by decide +kernel
set_option maxRecDepth 20000 in
theorem ggX11_keep_X11_in : GoodIn wsX11_keep wsX11_in := goodIn_r _ [9] (by decide +kernel) (by decide +kernel)
set_option maxRecDepth 20000 in
theorem gX11_keep_X11_in : GoodIn wsX11_keep (va_wsS RX11 75 yX11_in wsX11_in) := goodIn_app (goodIn_of _ (by decide +kernel)) ggX11_keep_X11_in
set_option maxRecDepth 20000 in
theorem ggX11_keep_X11_those : GoodIn wsX11_keep wsX11_those := goodIn_r _ [13, 14, 2, 15, 16, 17, 18, 19, 20, 21, 22, 23, 24, 25, 26, 27, 28, 29, 30, 31, 32, 33, 34, 35, 36, 37, 38, 39, 40, 41, 42, 43, 44] (by decide +kernel) (by decide +kernel)
set_option maxRecDepth 20000 in
theorem gX11_keep_X11_those : GoodIn wsX11_keep (wsV RX11 187 RX11 yX11_those wsX11_those) := goodIn_app (goodIn_of _ (by decide +kernel)) ggX11_keep_X11_those
theorem dX11_keep_0 : decode cX11_keep 0 = .ok (.iload_n 1, 1) := by decide +kernel
theorem dX11_keep_1 : decode cX11_keep 1 = .ok (.iconst 0, 1) := by decide +kernel
theorem dX11_keep_2 : decode cX11_keep 2 = .ok (.iconst 1, 1) := by decide +kernel
theorem dX11_keep_3 : decode cX11_keep 3 = .ok (.invokestatic 75, 3) := by decide +kernel
theorem dX11_keep_6 : decode cX11_keep 6 = .ok (.ifCond .ne 5, 3) := by decide +kernel
theorem dX11_keep_9 : decode cX11_keep 9 = .ok (.iconst (-1), 1) := by decide +kernel
theorem dX11_keep_10 : decode cX11_keep 10 = .ok (.ireturn, 1) := by decide +kernel
theorem dX11_keep_11 : decode cX11_keep 11 = .ok (.iconst 0, 1) := by decide +kernel
theorem dX11_keep_12 : decode cX11_keep 12 = .ok (.istore_n 2, 1) := by decide +kernel
theorem dX11_keep_13 : decode cX11_keep 13 = .ok (.iload_n 2, 1) := by decide +kernel
theorem dX11_keep_14 : decode cX11_keep 14 = .ok (.bipush 45, 2) := by decide +kernel
theorem dX11_keep_16 : decode cX11_keep 16 = .ok (.if_icmp .ge 26, 3) := by decide +kernel
theorem dX11_keep_19 : decode cX11_keep 19 = .ok (.aload_n 0, 1) := by decide +kernel
theorem dX11_keep_20 : decode cX11_keep 20 = .ok (.getfield 56, 3) := by decide +kernel
theorem dX11_keep_23 : decode cX11_keep 23 = .ok (.bipush 45, 2) := by decide +kernel
theorem dX11_keep_25 : decode cX11_keep 25 = .ok (.iload_n 1, 1) := by decide +kernel
theorem dX11_keep_26 : decode cX11_keep 26 = .ok (.imul, 1) := by decide +kernel
theorem dX11_keep_27 : decode cX11_keep 27 = .ok (.iload_n 2, 1) := by decide +kernel
theorem dX11_keep_28 : decode cX11_keep 28 = .ok (.iadd, 1) := by decide +kernel
theorem dX11_keep_29 : decode cX11_keep 29 = .ok (.aload_n 0, 1) := by decide +kernel
theorem dX11_keep_30 : decode cX11_keep 30 = .ok (.getfield 47, 3) := by decide +kernel
theorem dX11_keep_33 : decode cX11_keep 33 = .ok (.iload_n 2, 1) := by decide +kernel
theorem dX11_keep_34 : decode cX11_keep 34 = .ok (.iaload, 1) := by decide +kernel
theorem dX11_keep_35 : decode cX11_keep 35 = .ok (.iastore, 1) := by decide +kernel
theorem dX11_keep_36 : decode cX11_keep 36 = .ok (.iinc 2 1, 3) := by decide +kernel
theorem dX11_keep_39 : decode cX11_keep 39 = .ok (.goto (-26), 3) := by decide +kernel
theorem dX11_keep_42 : decode cX11_keep 42 = .ok (.iconst 0, 1) := by decide +kernel
theorem dX11_keep_43 : decode cX11_keep 43 = .ok (.istore_n 2, 1) := by decide +kernel
theorem dX11_keep_44 : decode cX11_keep 44 = .ok (.iload_n 2, 1) := by decide +kernel
theorem dX11_keep_45 : decode cX11_keep 45 = .ok (.sipush 450, 3) := by decide +kernel
theorem dX11_keep_48 : decode cX11_keep 48 = .ok (.if_icmp .ge 29, 3) := by decide +kernel
theorem dX11_keep_51 : decode cX11_keep 51 = .ok (.aload_n 0, 1) := by decide +kernel
theorem dX11_keep_52 : decode cX11_keep 52 = .ok (.getfield 53, 3) := by decide +kernel
theorem dX11_keep_55 : decode cX11_keep 55 = .ok (.sipush 450, 3) := by decide +kernel
theorem dX11_keep_58 : decode cX11_keep 58 = .ok (.iconst 1, 1) := by decide +kernel
theorem dX11_keep_59 : decode cX11_keep 59 = .ok (.iload_n 1, 1) := by decide +kernel
theorem dX11_keep_60 : decode cX11_keep 60 = .ok (.iadd, 1) := by decide +kernel
theorem dX11_keep_61 : decode cX11_keep 61 = .ok (.imul, 1) := by decide +kernel
theorem dX11_keep_62 : decode cX11_keep 62 = .ok (.iload_n 2, 1) := by decide +kernel
theorem dX11_keep_63 : decode cX11_keep 63 = .ok (.iadd, 1) := by decide +kernel
theorem dX11_keep_64 : decode cX11_keep 64 = .ok (.aload_n 0, 1) := by decide +kernel
theorem dX11_keep_65 : decode cX11_keep 65 = .ok (.getfield 53, 3) := by decide +kernel
theorem dX11_keep_68 : decode cX11_keep 68 = .ok (.iload_n 2, 1) := by decide +kernel
theorem dX11_keep_69 : decode cX11_keep 69 = .ok (.iaload, 1) := by decide +kernel
theorem dX11_keep_70 : decode cX11_keep 70 = .ok (.iastore, 1) := by decide +kernel
theorem dX11_keep_71 : decode cX11_keep 71 = .ok (.iinc 2 1, 3) := by decide +kernel
theorem dX11_keep_74 : decode cX11_keep 74 = .ok (.goto (-30), 3) := by decide +kernel
theorem dX11_keep_77 : decode cX11_keep 77 = .ok (.aload_n 0, 1) := by decide +kernel
theorem dX11_keep_78 : decode cX11_keep 78 = .ok (.getfield 50, 3) := by decide +kernel
theorem dX11_keep_81 : decode cX11_keep 81 = .ok (.iconst 1, 1) := by decide +kernel
theorem dX11_keep_82 : decode cX11_keep 82 = .ok (.iload_n 1, 1) := by decide +kernel
theorem dX11_keep_83 : decode cX11_keep 83 = .ok (.iadd, 1) := by decide +kernel
theorem dX11_keep_84 : decode cX11_keep 84 = .ok (.aload_n 0, 1) := by decide +kernel
theorem dX11_keep_85 : decode cX11_keep 85 = .ok (.getfield 50, 3) := by decide +kernel
theorem dX11_keep_88 : decode cX11_keep 88 = .ok (.iconst 0, 1) := by decide +kernel
theorem dX11_keep_89 : decode cX11_keep 89 = .ok (.iaload, 1) := by decide +kernel
theorem dX11_keep_90 : decode cX11_keep 90 = .ok (.iastore, 1) := by decide +kernel
theorem dX11_keep_91 : decode cX11_keep 91 = .ok (.aload_n 0, 1) := by decide +kernel
theorem dX11_keep_92 : decode cX11_keep 92 = .ok (.getfield 59, 3) := by decide +kernel
theorem dX11_keep_95 : decode cX11_keep 95 = .ok (.iload_n 1, 1) := by decide +kernel
theorem dX11_keep_96 : decode cX11_keep 96 = .ok (.iconst 1, 1) := by decide +kernel
theorem dX11_keep_97 : decode cX11_keep 97 = .ok (.bastore, 1) := by decide +kernel
theorem dX11_keep_98 : decode cX11_keep 98 = .ok (.aload_n 0, 1) := by decide +kernel
theorem dX11_keep_99 : decode cX11_keep 99 = .ok (.iconst 0, 1) := by decide +kernel
theorem dX11_keep_100 : decode cX11_keep 100 = .ok (.invokevirtual 187, 3) := by decide +kernel
theorem dX11_keep_103 : decode cX11_keep 103 = .ok (.ireturn, 1) := by decide +kernel
set_option maxRecDepth 20000 in
theorem ggX11_back_X11_in : GoodIn wsX11_back wsX11_in := goodIn_r _ [9] (by decide +kernel) (by decide +kernel)
set_option maxRecDepth 20000 in
theorem gX11_back_X11_in : GoodIn wsX11_back (va_wsS RX11 75 yX11_in wsX11_in) := goodIn_app (goodIn_of _ (by decide +kernel)) ggX11_back_X11_in
set_option maxRecDepth 20000 in
theorem ggX11_back_X11_those : GoodIn wsX11_back wsX11_those := goodIn_r _ [13, 14, 2, 15, 16, 17, 18, 19, 20, 21, 22, 23, 24, 25, 26, 27, 28, 29, 30, 31, 32, 33, 34, 35, 36, 37, 38, 39, 40, 41, 42, 43, 44] (by decide +kernel) (by decide +kernel)
set_option maxRecDepth 20000 in
theorem gX11_back_X11_those : GoodIn wsX11_back (wsV RX11 187 RX11 yX11_those wsX11_those) := goodIn_app (goodIn_of _ (by decide +kernel)) ggX11_back_X11_those
theorem dX11_back_0 : decode cX11_back 0 = .ok (.iload_n 1, 1) := by decide +kernel
theorem dX11_back_1 : decode cX11_back 1 = .ok (.iconst 0, 1) := by decide +kernel
theorem dX11_back_2 : decode cX11_back 2 = .ok (.iconst 1, 1) := by decide +kernel
theorem dX11_back_3 : decode cX11_back 3 = .ok (.invokestatic 75, 3) := by decide +kernel
theorem dX11_back_6 : decode cX11_back 6 = .ok (.ifCond .ne 5, 3) := by decide +kernel
theorem dX11_back_9 : decode cX11_back 9 = .ok (.iconst (-1), 1) := by decide +kernel
theorem dX11_back_10 : decode cX11_back 10 = .ok (.ireturn, 1) := by decide +kernel
theorem dX11_back_11 : decode cX11_back 11 = .ok (.aload_n 0, 1) := by decide +kernel
theorem dX11_back_12 : decode cX11_back 12 = .ok (.getfield 59, 3) := by decide +kernel
theorem dX11_back_15 : decode cX11_back 15 = .ok (.iload_n 1, 1) := by decide +kernel
theorem dX11_back_16 : decode cX11_back 16 = .ok (.baload, 1) := by decide +kernel
theorem dX11_back_17 : decode cX11_back 17 = .ok (.ifCond .ne 6, 3) := by decide +kernel
theorem dX11_back_20 : decode cX11_back 20 = .ok (.bipush (-2), 2) := by decide +kernel
theorem dX11_back_22 : decode cX11_back 22 = .ok (.ireturn, 1) := by decide +kernel
theorem dX11_back_23 : decode cX11_back 23 = .ok (.iconst 0, 1) := by decide +kernel
theorem dX11_back_24 : decode cX11_back 24 = .ok (.istore_n 2, 1) := by decide +kernel
theorem dX11_back_25 : decode cX11_back 25 = .ok (.iload_n 2, 1) := by decide +kernel
theorem dX11_back_26 : decode cX11_back 26 = .ok (.bipush 45, 2) := by decide +kernel
theorem dX11_back_28 : decode cX11_back 28 = .ok (.if_icmp .ge 26, 3) := by decide +kernel
theorem dX11_back_31 : decode cX11_back 31 = .ok (.aload_n 0, 1) := by decide +kernel
theorem dX11_back_32 : decode cX11_back 32 = .ok (.getfield 47, 3) := by decide +kernel
theorem dX11_back_35 : decode cX11_back 35 = .ok (.iload_n 2, 1) := by decide +kernel
theorem dX11_back_36 : decode cX11_back 36 = .ok (.aload_n 0, 1) := by decide +kernel
theorem dX11_back_37 : decode cX11_back 37 = .ok (.getfield 56, 3) := by decide +kernel
theorem dX11_back_40 : decode cX11_back 40 = .ok (.bipush 45, 2) := by decide +kernel
theorem dX11_back_42 : decode cX11_back 42 = .ok (.iload_n 1, 1) := by decide +kernel
theorem dX11_back_43 : decode cX11_back 43 = .ok (.imul, 1) := by decide +kernel
theorem dX11_back_44 : decode cX11_back 44 = .ok (.iload_n 2, 1) := by decide +kernel
theorem dX11_back_45 : decode cX11_back 45 = .ok (.iadd, 1) := by decide +kernel
theorem dX11_back_46 : decode cX11_back 46 = .ok (.iaload, 1) := by decide +kernel
theorem dX11_back_47 : decode cX11_back 47 = .ok (.iastore, 1) := by decide +kernel
theorem dX11_back_48 : decode cX11_back 48 = .ok (.iinc 2 1, 3) := by decide +kernel
theorem dX11_back_51 : decode cX11_back 51 = .ok (.goto (-26), 3) := by decide +kernel
theorem dX11_back_54 : decode cX11_back 54 = .ok (.iconst 0, 1) := by decide +kernel
theorem dX11_back_55 : decode cX11_back 55 = .ok (.istore_n 2, 1) := by decide +kernel
theorem dX11_back_56 : decode cX11_back 56 = .ok (.iload_n 2, 1) := by decide +kernel
theorem dX11_back_57 : decode cX11_back 57 = .ok (.sipush 450, 3) := by decide +kernel
theorem dX11_back_60 : decode cX11_back 60 = .ok (.if_icmp .ge 29, 3) := by decide +kernel
theorem dX11_back_63 : decode cX11_back 63 = .ok (.aload_n 0, 1) := by decide +kernel
theorem dX11_back_64 : decode cX11_back 64 = .ok (.getfield 53, 3) := by decide +kernel
theorem dX11_back_67 : decode cX11_back 67 = .ok (.iload_n 2, 1) := by decide +kernel
theorem dX11_back_68 : decode cX11_back 68 = .ok (.aload_n 0, 1) := by decide +kernel
theorem dX11_back_69 : decode cX11_back 69 = .ok (.getfield 53, 3) := by decide +kernel
theorem dX11_back_72 : decode cX11_back 72 = .ok (.sipush 450, 3) := by decide +kernel
theorem dX11_back_75 : decode cX11_back 75 = .ok (.iconst 1, 1) := by decide +kernel
theorem dX11_back_76 : decode cX11_back 76 = .ok (.iload_n 1, 1) := by decide +kernel
theorem dX11_back_77 : decode cX11_back 77 = .ok (.iadd, 1) := by decide +kernel
theorem dX11_back_78 : decode cX11_back 78 = .ok (.imul, 1) := by decide +kernel
theorem dX11_back_79 : decode cX11_back 79 = .ok (.iload_n 2, 1) := by decide +kernel
theorem dX11_back_80 : decode cX11_back 80 = .ok (.iadd, 1) := by decide +kernel
theorem dX11_back_81 : decode cX11_back 81 = .ok (.iaload, 1) := by decide +kernel
theorem dX11_back_82 : decode cX11_back 82 = .ok (.iastore, 1) := by decide +kernel
theorem dX11_back_83 : decode cX11_back 83 = .ok (.iinc 2 1, 3) := by decide +kernel
theorem dX11_back_86 : decode cX11_back 86 = .ok (.goto (-30), 3) := by decide +kernel
theorem dX11_back_89 : decode cX11_back 89 = .ok (.aload_n 0, 1) := by decide +kernel
theorem dX11_back_90 : decode cX11_back 90 = .ok (.getfield 50, 3) := by decide +kernel
theorem dX11_back_93 : decode cX11_back 93 = .ok (.iconst 0, 1) := by decide +kernel
theorem dX11_back_94 : decode cX11_back 94 = .ok (.aload_n 0, 1) := by decide +kernel
theorem dX11_back_95 : decode cX11_back 95 = .ok (.getfield 50, 3) := by decide +kernel
theorem dX11_back_98 : decode cX11_back 98 = .ok (.iconst 1, 1) := by decide +kernel
theorem dX11_back_99 : decode cX11_back 99 = .ok (.iload_n 1, 1) := by decide +kernel
theorem dX11_back_100 : decode cX11_back 100 = .ok (.iadd, 1) := by decide +kernel
theorem dX11_back_101 : decode cX11_back 101 = .ok (.iaload, 1) := by decide +kernel
theorem dX11_back_102 : decode cX11_back 102 = .ok (.iastore, 1) := by decide +kernel
theorem dX11_back_103 : decode cX11_back 103 = .ok (.aload_n 0, 1) := by decide +kernel
theorem dX11_back_104 : decode cX11_back 104 = .ok (.iconst 0, 1) := by decide +kernel
theorem dX11_back_105 : decode cX11_back 105 = .ok (.invokevirtual 187, 3) := by decide +kernel
theorem dX11_back_108 : decode cX11_back 108 = .ok (.ireturn, 1) := by decide +kernel
set_option maxRecDepth 20000 in
theorem ggX11_count_X11_bitsOf : GoodIn wsX11_count wsX11_bitsOf := goodIn_r _ [10] (by decide +kernel) (by decide +kernel)
set_option maxRecDepth 20000 in
theorem gX11_count_X11_bitsOf : GoodIn wsX11_count (va_wsS RX11 184 yX11_bitsOf wsX11_bitsOf) := goodIn_app (goodIn_of _ (by decide +kernel)) ggX11_count_X11_bitsOf
theorem dX11_count_0 : decode cX11_count 0 = .ok (.iconst 0, 1) := by decide +kernel
theorem dX11_count_1 : decode cX11_count 1 = .ok (.istore_n 2, 1) := by decide +kernel
theorem dX11_count_2 : decode cX11_count 2 = .ok (.iload_n 1, 1) := by decide +kernel
theorem dX11_count_3 : decode cX11_count 3 = .ok (.tableswitch 102 0 5 #[37, 44, 51, 85, 90, 97], 37) := by decide +kernel
theorem dX11_count_40 : decode cX11_count 40 = .ok (.aload_n 0, 1) := by decide +kernel
theorem dX11_count_41 : decode cX11_count 41 = .ok (.getfield 20, 3) := by decide +kernel
theorem dX11_count_44 : decode cX11_count 44 = .ok (.iconst 0, 1) := by decide +kernel
theorem dX11_count_45 : decode cX11_count 45 = .ok (.iaload, 1) := by decide +kernel
theorem dX11_count_46 : decode cX11_count 46 = .ok (.ireturn, 1) := by decide +kernel
theorem dX11_count_47 : decode cX11_count 47 = .ok (.aload_n 0, 1) := by decide +kernel
theorem dX11_count_48 : decode cX11_count 48 = .ok (.getfield 29, 3) := by decide +kernel
theorem dX11_count_51 : decode cX11_count 51 = .ok (.iconst 0, 1) := by decide +kernel
theorem dX11_count_52 : decode cX11_count 52 = .ok (.iaload, 1) := by decide +kernel
theorem dX11_count_53 : decode cX11_count 53 = .ok (.ireturn, 1) := by decide +kernel
theorem dX11_count_54 : decode cX11_count 54 = .ok (.iconst 0, 1) := by decide +kernel
theorem dX11_count_55 : decode cX11_count 55 = .ok (.istore_n 3, 1) := by decide +kernel
theorem dX11_count_56 : decode cX11_count 56 = .ok (.iload_n 3, 1) := by decide +kernel
theorem dX11_count_57 : decode cX11_count 57 = .ok (.aload_n 0, 1) := by decide +kernel
theorem dX11_count_58 : decode cX11_count 58 = .ok (.getfield 20, 3) := by decide +kernel
theorem dX11_count_61 : decode cX11_count 61 = .ok (.iconst 0, 1) := by decide +kernel
theorem dX11_count_62 : decode cX11_count 62 = .ok (.iaload, 1) := by decide +kernel
theorem dX11_count_63 : decode cX11_count 63 = .ok (.if_icmp .ge 21, 3) := by decide +kernel
theorem dX11_count_66 : decode cX11_count 66 = .ok (.iload_n 2, 1) := by decide +kernel
theorem dX11_count_67 : decode cX11_count 67 = .ok (.aload_n 0, 1) := by decide +kernel
theorem dX11_count_68 : decode cX11_count 68 = .ok (.getfield 26, 3) := by decide +kernel
theorem dX11_count_71 : decode cX11_count 71 = .ok (.iload_n 3, 1) := by decide +kernel
theorem dX11_count_72 : decode cX11_count 72 = .ok (.iaload, 1) := by decide +kernel
theorem dX11_count_73 : decode cX11_count 73 = .ok (.invokestatic 184, 3) := by decide +kernel
theorem dX11_count_76 : decode cX11_count 76 = .ok (.iadd, 1) := by decide +kernel
theorem dX11_count_77 : decode cX11_count 77 = .ok (.istore_n 2, 1) := by decide +kernel
theorem dX11_count_78 : decode cX11_count 78 = .ok (.iinc 3 1, 3) := by decide +kernel
theorem dX11_count_81 : decode cX11_count 81 = .ok (.goto (-25), 3) := by decide +kernel
theorem dX11_count_84 : decode cX11_count 84 = .ok (.iload_n 2, 1) := by decide +kernel
theorem dX11_count_85 : decode cX11_count 85 = .ok (.iconst 2, 1) := by decide +kernel
theorem dX11_count_86 : decode cX11_count 86 = .ok (.idiv, 1) := by decide +kernel
theorem dX11_count_87 : decode cX11_count 87 = .ok (.ireturn, 1) := by decide +kernel
theorem dX11_count_88 : decode cX11_count 88 = .ok (.aload_n 0, 1) := by decide +kernel
theorem dX11_count_89 : decode cX11_count 89 = .ok (.getfield 131, 3) := by decide +kernel
theorem dX11_count_92 : decode cX11_count 92 = .ok (.ireturn, 1) := by decide +kernel
theorem dX11_count_93 : decode cX11_count 93 = .ok (.aload_n 0, 1) := by decide +kernel
theorem dX11_count_94 : decode cX11_count 94 = .ok (.getfield 50, 3) := by decide +kernel
theorem dX11_count_97 : decode cX11_count 97 = .ok (.iconst 0, 1) := by decide +kernel
theorem dX11_count_98 : decode cX11_count 98 = .ok (.iaload, 1) := by decide +kernel
theorem dX11_count_99 : decode cX11_count 99 = .ok (.ireturn, 1) := by decide +kernel
theorem dX11_count_100 : decode cX11_count 100 = .ok (.aload_n 0, 1) := by decide +kernel
theorem dX11_count_101 : decode cX11_count 101 = .ok (.getfield 79, 3) := by decide +kernel
theorem dX11_count_104 : decode cX11_count 104 = .ok (.ireturn, 1) := by decide +kernel
theorem dX11_count_105 : decode cX11_count 105 = .ok (.iconst (-1), 1) := by decide +kernel
theorem dX11_count_106 : decode cX11_count 106 = .ok (.ireturn, 1) := by decide +kernel
theorem dJ6_bitCount_0f7a4_0 : decode cJ6_bitCount_0f7a4 0 = .ok (.iload_n 0, 1) := by decide +kernel
theorem dJ6_bitCount_0f7a4_1 : decode cJ6_bitCount_0f7a4 1 = .ok (.iload_n 0, 1) := by decide +kernel
theorem dJ6_bitCount_0f7a4_2 : decode cJ6_bitCount_0f7a4 2 = .ok (.iconst 1, 1) := by decide +kernel
theorem dJ6_bitCount_0f7a4_3 : decode cJ6_bitCount_0f7a4 3 = .ok (.iushr, 1) := by decide +kernel
theorem dJ6_bitCount_0f7a4_4 : decode cJ6_bitCount_0f7a4 4 = .ok (.ldc_w 265, 3) := by decide +kernel
theorem dJ6_bitCount_0f7a4_7 : decode cJ6_bitCount_0f7a4 7 = .ok (.iand, 1) := by decide +kernel
theorem dJ6_bitCount_0f7a4_8 : decode cJ6_bitCount_0f7a4 8 = .ok (.isub, 1) := by decide +kernel
theorem dJ6_bitCount_0f7a4_9 : decode cJ6_bitCount_0f7a4 9 = .ok (.istore_n 0, 1) := by decide +kernel
theorem dJ6_bitCount_0f7a4_10 : decode cJ6_bitCount_0f7a4 10 = .ok (.iload_n 0, 1) := by decide +kernel
theorem dJ6_bitCount_0f7a4_11 : decode cJ6_bitCount_0f7a4 11 = .ok (.ldc_w 266, 3) := by decide +kernel
theorem dJ6_bitCount_0f7a4_14 : decode cJ6_bitCount_0f7a4 14 = .ok (.iand, 1) := by decide +kernel
theorem dJ6_bitCount_0f7a4_15 : decode cJ6_bitCount_0f7a4 15 = .ok (.iload_n 0, 1) := by decide +kernel
theorem dJ6_bitCount_0f7a4_16 : decode cJ6_bitCount_0f7a4 16 = .ok (.iconst 2, 1) := by decide +kernel
theorem dJ6_bitCount_0f7a4_17 : decode cJ6_bitCount_0f7a4 17 = .ok (.iushr, 1) := by decide +kernel
theorem dJ6_bitCount_0f7a4_18 : decode cJ6_bitCount_0f7a4 18 = .ok (.ldc_w 266, 3) := by decide +kernel
theorem dJ6_bitCount_0f7a4_21 : decode cJ6_bitCount_0f7a4 21 = .ok (.iand, 1) := by decide +kernel
theorem dJ6_bitCount_0f7a4_22 : decode cJ6_bitCount_0f7a4 22 = .ok (.iadd, 1) := by decide +kernel
theorem dJ6_bitCount_0f7a4_23 : decode cJ6_bitCount_0f7a4 23 = .ok (.istore_n 0, 1) := by decide +kernel
theorem dJ6_bitCount_0f7a4_24 : decode cJ6_bitCount_0f7a4 24 = .ok (.iload_n 0, 1) := by decide +kernel
theorem dJ6_bitCount_0f7a4_25 : decode cJ6_bitCount_0f7a4 25 = .ok (.iload_n 0, 1) := by decide +kernel
theorem dJ6_bitCount_0f7a4_26 : decode cJ6_bitCount_0f7a4 26 = .ok (.iconst 4, 1) := by decide +kernel
theorem dJ6_bitCount_0f7a4_27 : decode cJ6_bitCount_0f7a4 27 = .ok (.iushr, 1) := by decide +kernel
theorem dJ6_bitCount_0f7a4_28 : decode cJ6_bitCount_0f7a4 28 = .ok (.iadd, 1) := by decide +kernel
theorem dJ6_bitCount_0f7a4_29 : decode cJ6_bitCount_0f7a4 29 = .ok (.ldc_w 267, 3) := by decide +kernel
theorem dJ6_bitCount_0f7a4_32 : decode cJ6_bitCount_0f7a4 32 = .ok (.iand, 1) := by decide +kernel
theorem dJ6_bitCount_0f7a4_33 : decode cJ6_bitCount_0f7a4 33 = .ok (.istore_n 0, 1) := by decide +kernel
theorem dJ6_bitCount_0f7a4_34 : decode cJ6_bitCount_0f7a4 34 = .ok (.iload_n 0, 1) := by decide +kernel
theorem dJ6_bitCount_0f7a4_35 : decode cJ6_bitCount_0f7a4 35 = .ok (.iload_n 0, 1) := by decide +kernel
theorem dJ6_bitCount_0f7a4_36 : decode cJ6_bitCount_0f7a4 36 = .ok (.bipush 8, 2) := by decide +kernel
theorem dJ6_bitCount_0f7a4_38 : decode cJ6_bitCount_0f7a4 38 = .ok (.iushr, 1) := by decide +kernel
theorem dJ6_bitCount_0f7a4_39 : decode cJ6_bitCount_0f7a4 39 = .ok (.iadd, 1) := by decide +kernel
theorem dJ6_bitCount_0f7a4_40 : decode cJ6_bitCount_0f7a4 40 = .ok (.istore_n 0, 1) := by decide +kernel
theorem dJ6_bitCount_0f7a4_41 : decode cJ6_bitCount_0f7a4 41 = .ok (.iload_n 0, 1) := by decide +kernel
theorem dJ6_bitCount_0f7a4_42 : decode cJ6_bitCount_0f7a4 42 = .ok (.iload_n 0, 1) := by decide +kernel
theorem dJ6_bitCount_0f7a4_43 : decode cJ6_bitCount_0f7a4 43 = .ok (.bipush 16, 2) := by decide +kernel
theorem dJ6_bitCount_0f7a4_45 : decode cJ6_bitCount_0f7a4 45 = .ok (.iushr, 1) := by decide +kernel
theorem dJ6_bitCount_0f7a4_46 : decode cJ6_bitCount_0f7a4 46 = .ok (.iadd, 1) := by decide +kernel
theorem dJ6_bitCount_0f7a4_47 : decode cJ6_bitCount_0f7a4 47 = .ok (.istore_n 0, 1) := by decide +kernel
theorem dJ6_bitCount_0f7a4_48 : decode cJ6_bitCount_0f7a4 48 = .ok (.iload_n 0, 1) := by decide +kernel
theorem dJ6_bitCount_0f7a4_49 : decode cJ6_bitCount_0f7a4 49 = .ok (.bipush 63, 2) := by decide +kernel
theorem dJ6_bitCount_0f7a4_51 : decode cJ6_bitCount_0f7a4 51 = .ok (.iand, 1) := by decide +kernel
theorem dJ6_bitCount_0f7a4_52 : decode cJ6_bitCount_0f7a4 52 = .ok (.ireturn, 1) := by decide +kernel
theorem dJ9_max_7cf53_0 : decode cJ9_max_7cf53 0 = .ok (.iload_n 0, 1) := by decide +kernel
theorem dJ9_max_7cf53_1 : decode cJ9_max_7cf53 1 = .ok (.iload_n 1, 1) := by decide +kernel
theorem dJ9_max_7cf53_2 : decode cJ9_max_7cf53 2 = .ok (.if_icmp .lt 7, 3) := by decide +kernel
theorem dJ9_max_7cf53_5 : decode cJ9_max_7cf53 5 = .ok (.iload_n 0, 1) := by decide +kernel
theorem dJ9_max_7cf53_6 : decode cJ9_max_7cf53 6 = .ok (.goto 4, 3) := by decide +kernel
theorem dJ9_max_7cf53_9 : decode cJ9_max_7cf53 9 = .ok (.iload_n 1, 1) := by decide +kernel
theorem dJ9_max_7cf53_10 : decode cJ9_max_7cf53 10 = .ok (.ireturn, 1) := by decide +kernel
theorem dJ9_min_7cf53_0 : decode cJ9_min_7cf53 0 = .ok (.iload_n 0, 1) := by decide +kernel
theorem dJ9_min_7cf53_1 : decode cJ9_min_7cf53 1 = .ok (.iload_n 1, 1) := by decide +kernel
theorem dJ9_min_7cf53_2 : decode cJ9_min_7cf53 2 = .ok (.if_icmp .gt 7, 3) := by decide +kernel
theorem dJ9_min_7cf53_5 : decode cJ9_min_7cf53 5 = .ok (.iload_n 0, 1) := by decide +kernel
theorem dJ9_min_7cf53_6 : decode cJ9_min_7cf53 6 = .ok (.goto 4, 3) := by decide +kernel
theorem dJ9_min_7cf53_9 : decode cJ9_min_7cf53 9 = .ok (.iload_n 1, 1) := by decide +kernel
theorem dJ9_min_7cf53_10 : decode cJ9_min_7cf53 10 = .ok (.ireturn, 1) := by decide +kernel
set_option maxRecDepth 20000 in
theorem ggL_law_X10_init : GoodIn wsL_law wsX10_init := goodIn_r _ [8, 9, 10, 11, 12, 13, 14, 15, 16, 17, 18, 19, 20, 21, 22, 23, 24, 25, 26, 27, 28, 29, 30, 31, 32, 33, 34, 35, 36, 37, 38, 39, 40, 41, 42, 43, 44, 45, 46, 47, 48, 49, 50, 51, 52, 53, 54, 55, 56, 57, 58, 59, 60, 61, 62, 63, 64, 65, 66, 67, 68, 69, 70, 71, 72, 73, 74, 75, 76, 77, 2, 78, 79, 80, 81, 82, 83, 84, 85, 86, 87, 88, 89, 90, 91, 92, 93, 94, 95, 96, 97, 98, 99, 100, 101, 102, 103, 104, 105, 106, 107, 108, 109, 110, 111, 112, 113, 114, 115, 116, 117, 118, 119, 120, 121, 122, 123, 124, 125, 126, 127, 128, 129, 827, 828, 829, 830, 831, 832, 833, 834, 835, 836, 785, 786, 787, 788, 789, 790, 791, 792, 793, 794, 795, 796, 837, 838, 839, 840, 841, 842, 843, 844, 845, 846, 847, 848, 849, 850, 851, 852, 853, 854, 855, 856, 857, 858, 859, 860, 861, 862, 863, 864, 865, 866, 867, 868] (by decide +kernel) (by decide +kernel)
set_option maxRecDepth 20000 in
theorem gL_law_X10_init : GoodIn wsL_law (wsX10_init) := ggL_law_X10_init
set_option maxRecDepth 20000 in
theorem ggL_law_X11_init : GoodIn wsL_law wsX11_init := goodIn_r _ [132, 133, 10, 11, 134, 135, 57, 136, 137, 138, 139, 140, 141, 142, 143, 144, 145, 146, 147, 148, 149, 150, 151, 152, 153, 154, 155, 156, 797, 798, 799, 800, 801, 802, 803, 804, 805, 806, 807, 808, 809, 810, 811, 812, 813, 814, 815, 816, 817, 818, 819, 820, 821, 822, 823, 824, 825, 826] (by decide +kernel) (by decide +kernel)
set_option maxRecDepth 20000 in
theorem gL_law_X11_init : GoodIn wsL_law (wsX11_init) := ggL_law_X11_init
set_option maxRecDepth 20000 in
theorem ggL_law_X10_type : GoodIn wsL_law wsX10_type := goodIn_r _ [160, 33, 161, 162, 2, 163, 164, 32, 165, 166, 167, 96, 168, 169, 785, 786, 787, 788, 789, 790, 791, 792, 793, 794, 795, 796, 843, 844, 845, 846, 847, 848, 849] (by decide +kernel) (by decide +kernel)
set_option maxRecDepth 20000 in
theorem gL_law_X10_type : GoodIn wsL_law (wsV RL 13 RX10 yX10_type wsX10_type) := goodIn_app (goodIn_of _ (by decide +kernel)) ggL_law_X10_type
set_option maxRecDepth 20000 in
theorem ggL_law_X11_type : GoodIn wsL_law wsX11_type := goodIn_r _ [173, 174, 135, 175, 176, 5, 177, 797, 798, 799, 800, 801, 802, 803, 804, 805, 806, 807, 808, 809, 810, 811, 812, 813, 814, 815, 816, 817, 818, 819, 820, 821, 822, 823, 824, 825, 826] (by decide +kernel) (by decide +kernel)
set_option maxRecDepth 20000 in
theorem gL_law_X11_type : GoodIn wsL_law (wsV RL 17 RX11 yX11_type wsX11_type) := goodIn_app (goodIn_of _ (by decide +kernel)) ggL_law_X11_type
set_option maxRecDepth 20000 in
theorem ggL_law_X10_clear : GoodIn wsL_law wsX10_clear := goodIn_r _ [181, 33, 785, 786, 787, 788, 789, 790, 791, 792, 793, 794, 795, 796, 843, 844, 845, 846, 847, 848, 849] (by decide +kernel) (by decide +kernel)
set_option maxRecDepth 20000 in
theorem gL_law_X10_clear : GoodIn wsL_law (wsV RL 18 RX10 yX10_clear wsX10_clear) := goodIn_app (goodIn_of _ (by decide +kernel)) ggL_law_X10_clear
set_option maxRecDepth 20000 in
theorem ggL_law_X11_clear : GoodIn wsL_law wsX11_clear := goodIn_r _ [185, 174, 797, 798, 799, 800, 801, 802, 803, 804, 805, 806, 807, 808, 809, 810, 811, 812, 813, 814, 815, 816, 817, 818, 819, 820, 821, 822, 823, 824, 825, 826] (by decide +kernel) (by decide +kernel)
set_option maxRecDepth 20000 in
theorem gL_law_X11_clear : GoodIn wsL_law (wsV RL 22 RX11 yX11_clear wsX11_clear) := goodIn_app (goodIn_of _ (by decide +kernel)) ggL_law_X11_clear
set_option maxRecDepth 20000 in
theorem ggL_law_X10_town : GoodIn wsL_law wsX10_town := goodIn_r _ [189, 33, 16, 15, 20, 24, 49, 28, 29, 190, 32, 191, 192, 193, 194, 195, 196, 197, 71, 14, 72, 73, 58, 59, 63, 65, 74, 75, 76, 77, 2, 78, 79, 19, 80, 81, 69, 198, 199, 200, 201, 96, 167, 202, 203, 204, 205, 206, 207, 162, 163, 208, 209, 210, 211, 212, 213, 214, 215, 216, 217, 218, 219, 220, 221, 222, 223, 168, 169, 224, 225, 226, 227, 228, 229, 230, 231, 232, 233, 234, 235, 236, 237, 238, 239, 240, 60, 61, 62, 241, 242, 243, 244, 245, 246, 247, 248, 249, 250, 251, 252, 253, 254, 255, 256, 257, 258, 259, 260, 261, 262, 263, 264, 785, 786, 787, 788, 789, 790, 791, 792, 793, 794, 795, 796, 827, 828, 829, 830, 831, 832, 833, 834, 835, 836, 838, 839, 860, 861, 862, 863, 864, 865, 840, 841, 842, 843, 844, 845, 846, 847, 848, 849, 837] (by decide +kernel) (by decide +kernel)
set_option maxRecDepth 20000 in
theorem gL_law_X10_town : GoodIn wsL_law (wsV RL 23 RX10 yX10_town wsX10_town) := goodIn_app (goodIn_of _ (by decide +kernel)) ggL_law_X10_town
set_option maxRecDepth 20000 in
theorem ggL_law_X11_town : GoodIn wsL_law wsX11_town := goodIn_r _ [268, 269, 270, 138, 141, 147, 136, 137, 140, 139, 142, 144, 146, 143, 145, 148, 152, 271, 174, 272, 273, 274, 275, 5, 276, 277, 278, 279, 280, 281, 282, 283, 284, 285, 286, 287, 135, 175, 176, 177, 288, 289, 290, 291, 292, 293, 294, 295, 296, 297, 298, 299, 300, 301, 302, 303, 304, 305, 306, 307, 797, 798, 799, 800, 801, 802, 803, 804, 805, 806, 807, 808, 809, 810, 811, 812, 813, 814, 815, 816, 817, 818, 819, 820, 821, 822, 823, 824, 825, 826] (by decide +kernel) (by decide +kernel)
set_option maxRecDepth 20000 in
theorem gL_law_X11_town : GoodIn wsL_law (wsV RL 26 RX11 yX11_town wsX11_town) := goodIn_app (goodIn_of _ (by decide +kernel)) ggL_law_X11_town
set_option maxRecDepth 20000 in
theorem ggL_law_X10_cell : GoodIn wsL_law wsX10_cell := goodIn_r _ [311, 15, 20, 161, 162, 2, 163, 312, 206, 207, 313, 314, 315, 316, 19, 317, 318, 319, 320, 321, 322, 69, 250, 251, 252, 785, 786, 787, 788, 789, 790, 791, 792, 793, 794, 795, 796, 827, 828, 829, 830, 831, 832, 833, 834, 835, 836, 837] (by decide +kernel) (by decide +kernel)
set_option maxRecDepth 20000 in
theorem gL_law_X10_cell : GoodIn wsL_law (wsV RL 27 RX10 yX10_cell wsX10_cell) := goodIn_app (goodIn_of _ (by decide +kernel)) ggL_law_X10_cell
set_option maxRecDepth 20000 in
theorem ggL_law_X11_cell : GoodIn wsL_law wsX11_cell := goodIn_r _ [326, 136, 137, 141, 147, 175, 176, 5, 177, 327, 328, 329, 330, 797, 798, 799, 800, 801, 802, 803, 804, 805, 806, 807, 808, 809, 810, 811, 812, 813, 814, 815, 816, 817, 818, 819, 820, 821, 822, 823, 824, 825, 826] (by decide +kernel) (by decide +kernel)
set_option maxRecDepth 20000 in
theorem gL_law_X11_cell : GoodIn wsL_law (wsV RL 31 RX11 yX11_cell wsX11_cell) := goodIn_app (goodIn_of _ (by decide +kernel)) ggL_law_X11_cell
set_option maxRecDepth 20000 in
theorem ggL_law_X10_raft : GoodIn wsL_law wsX10_raft := goodIn_r _ [334, 20, 45, 335, 336, 337, 2, 338, 15, 161, 162, 163, 320, 19, 321, 322, 69, 206, 207, 339, 340, 341, 342, 343, 344, 345, 319, 248, 249, 250, 251, 252, 346, 44, 347, 348, 115, 116, 316, 317, 318, 349, 350, 351, 352, 353, 354, 355, 356, 357, 358, 359, 360, 361, 362, 363, 364, 365, 366, 367, 368, 369, 370, 371, 14, 372, 373, 374, 375, 376, 377, 61, 59, 58, 378, 379, 785, 786, 787, 788, 789, 790, 791, 792, 793, 794, 795, 796, 827, 828, 829, 830, 831, 832, 833, 834, 835, 836, 837, 858, 859] (by decide +kernel) (by decide +kernel)
set_option maxRecDepth 20000 in
theorem gL_law_X10_raft : GoodIn wsL_law (wsV RL 32 RX10 yX10_raft wsX10_raft) := goodIn_app (goodIn_of _ (by decide +kernel)) ggL_law_X10_raft
set_option maxRecDepth 20000 in
theorem ggL_law_X11_raft : GoodIn wsL_law wsX11_raft := goodIn_r _ [383, 147, 384, 385, 386, 5, 387, 138, 175, 176, 177, 388, 389, 390, 391, 392, 393, 394, 141, 327, 328, 329, 330, 395, 396, 397, 398, 142, 399, 400, 401, 402, 146, 403, 404, 405, 406, 140, 407, 408, 409, 410, 411, 412, 413, 414, 415, 416, 417, 418, 144, 137, 136, 797, 798, 799, 800, 801, 802, 803, 804, 805, 806, 807, 808, 809, 810, 811, 812, 813, 814, 815, 816, 817, 818, 819, 820, 821, 822, 823, 824, 825, 826] (by decide +kernel) (by decide +kernel)
set_option maxRecDepth 20000 in
theorem gL_law_X11_raft : GoodIn wsL_law (wsV RL 35 RX11 yX11_raft wsX11_raft) := goodIn_app (goodIn_of _ (by decide +kernel)) ggL_law_X11_raft
set_option maxRecDepth 20000 in
theorem ggL_law_X10_anchor : GoodIn wsL_law wsX10_anchor := goodIn_r _ [422, 15, 20, 37, 45, 423, 424, 425, 2, 426, 161, 162, 163, 312, 206, 207, 320, 19, 321, 322, 69, 316, 317, 318, 319, 427, 36, 428, 429, 104, 102, 430, 431, 432, 433, 103, 77, 78, 371, 14, 372, 373, 374, 375, 376, 377, 61, 59, 58, 378, 379, 168, 169, 350, 44, 351, 352, 115, 116, 339, 340, 341, 342, 343, 344, 345, 248, 249, 250, 251, 252, 785, 786, 787, 788, 789, 790, 791, 792, 793, 794, 795, 796, 827, 828, 829, 830, 831, 832, 833, 834, 835, 836, 837, 850, 851, 852, 853, 858, 859] (by decide +kernel) (by decide +kernel)
set_option maxRecDepth 20000 in
theorem gL_law_X10_anchor : GoodIn wsL_law (wsV RL 36 RX10 yX10_anchor wsX10_anchor) := goodIn_app (goodIn_of _ (by decide +kernel)) ggL_law_X10_anchor
set_option maxRecDepth 20000 in
theorem ggL_law_X11_anchor : GoodIn wsL_law wsX11_anchor := goodIn_r _ [437, 142, 147, 144, 146, 438, 439, 440, 5, 441, 141, 175, 176, 177, 327, 328, 329, 330, 442, 443, 444, 445, 411, 412, 413, 414, 415, 416, 417, 418, 137, 136, 395, 396, 397, 398, 388, 389, 390, 797, 798, 799, 800, 801, 802, 803, 804, 805, 806, 807, 808, 809, 810, 811, 812, 813, 814, 815, 816, 817, 818, 819, 820, 821, 822, 823, 824, 825, 826] (by decide +kernel) (by decide +kernel)
set_option maxRecDepth 20000 in
theorem gL_law_X11_anchor : GoodIn wsL_law (wsV RL 39 RX11 yX11_anchor wsX11_anchor) := goodIn_app (goodIn_of _ (by decide +kernel)) ggL_law_X11_anchor
set_option maxRecDepth 20000 in
theorem ggL_law_X10_storms : GoodIn wsL_law wsX10_storms := goodIn_r _ [449, 24, 20, 37, 450, 451, 2, 452, 161, 162, 163, 453, 23, 454, 455, 456, 85, 256, 257, 258, 259, 260, 261, 457, 36, 458, 459, 103, 102, 430, 431, 432, 433, 77, 78, 316, 19, 317, 318, 319, 320, 321, 322, 69, 206, 207, 371, 14, 372, 373, 374, 375, 376, 377, 61, 59, 58, 378, 379, 168, 169, 231, 232, 233, 785, 786, 787, 788, 789, 790, 791, 792, 793, 794, 795, 796, 838, 839, 837, 850, 851, 852, 853, 827, 828, 829, 830, 831, 832, 833, 834, 835, 836] (by decide +kernel) (by decide +kernel)
set_option maxRecDepth 20000 in
theorem gL_law_X10_storms : GoodIn wsL_law (wsV RL 40 RX10 yX10_storms wsX10_storms) := goodIn_app (goodIn_of _ (by decide +kernel)) ggL_law_X10_storms
set_option maxRecDepth 20000 in
theorem ggL_law_X11_storms : GoodIn wsL_law wsX11_storms := goodIn_r _ [463, 464, 465, 5, 466, 175, 176, 177, 467, 468, 469, 470, 471, 472, 473, 148, 149, 147, 474, 475, 476, 477, 141, 327, 328, 329, 330, 442, 443, 444, 445, 411, 412, 413, 414, 415, 416, 417, 418, 144, 137, 136, 388, 389, 390, 797, 798, 799, 800, 801, 802, 803, 804, 805, 806, 807, 808, 809, 810, 811, 812, 813, 814, 815, 816, 817, 818, 819, 820, 821, 822, 823, 824, 825, 826] (by decide +kernel) (by decide +kernel)
set_option maxRecDepth 20000 in
theorem gL_law_X11_storms : GoodIn wsL_law (wsV RL 43 RX11 yX11_storms wsX11_storms) := goodIn_app (goodIn_of _ (by decide +kernel)) ggL_law_X11_storms
set_option maxRecDepth 20000 in
theorem ggL_law_X10_pays : GoodIn wsL_law wsX10_pays := goodIn_r _ [481, 20, 24, 423, 424, 425, 2, 426, 15, 161, 162, 163, 320, 19, 321, 322, 69, 206, 207, 316, 317, 318, 319, 453, 23, 454, 455, 456, 85, 256, 257, 258, 259, 260, 261, 231, 232, 233, 168, 169, 785, 786, 787, 788, 789, 790, 791, 792, 793, 794, 795, 796, 827, 828, 829, 830, 831, 832, 833, 834, 835, 836, 837, 838, 839] (by decide +kernel) (by decide +kernel)
set_option maxRecDepth 20000 in
theorem gL_law_X10_pays : GoodIn wsL_law (wsV RL 44 RX10 yX10_pays wsX10_pays) := goodIn_app (goodIn_of _ (by decide +kernel)) ggL_law_X10_pays
set_option maxRecDepth 20000 in
theorem ggL_law_X11_pays : GoodIn wsL_law wsX11_pays := goodIn_r _ [485, 147, 438, 439, 440, 5, 441, 141, 175, 176, 177, 327, 328, 329, 330, 470, 471, 472, 473, 148, 149, 797, 798, 799, 800, 801, 802, 803, 804, 805, 806, 807, 808, 809, 810, 811, 812, 813, 814, 815, 816, 817, 818, 819, 820, 821, 822, 823, 824, 825, 826] (by decide +kernel) (by decide +kernel)
set_option maxRecDepth 20000 in
theorem gL_law_X11_pays : GoodIn wsL_law (wsV RL 47 RX11 yX11_pays wsX11_pays) := goodIn_app (goodIn_of _ (by decide +kernel)) ggL_law_X11_pays
set_option maxRecDepth 20000 in
theorem ggL_law_X10_dies : GoodIn wsL_law wsX10_dies := goodIn_r _ [489, 20, 24, 335, 336, 337, 2, 338, 15, 161, 162, 163, 339, 19, 340, 341, 342, 343, 344, 345, 319, 320, 321, 322, 69, 206, 207, 248, 249, 250, 251, 252, 453, 23, 454, 455, 456, 85, 256, 257, 258, 259, 260, 261, 231, 232, 233, 168, 169, 490, 491, 492, 493, 494, 495, 496, 785, 786, 787, 788, 789, 790, 791, 792, 793, 794, 795, 796, 827, 828, 829, 830, 831, 832, 833, 834, 835, 836, 837, 838, 839] (by decide +kernel) (by decide +kernel)
set_option maxRecDepth 20000 in
theorem gL_law_X10_dies : GoodIn wsL_law (wsV RL 48 RX10 yX10_dies wsX10_dies) := goodIn_app (goodIn_of _ (by decide +kernel)) ggL_law_X10_dies
set_option maxRecDepth 20000 in
theorem ggL_law_X11_dies : GoodIn wsL_law wsX11_dies := goodIn_r _ [500, 147, 384, 385, 386, 5, 387, 138, 175, 176, 177, 388, 389, 390, 470, 471, 472, 473, 148, 149, 501, 502, 503, 797, 798, 799, 800, 801, 802, 803, 804, 805, 806, 807, 808, 809, 810, 811, 812, 813, 814, 815, 816, 817, 818, 819, 820, 821, 822, 823, 824, 825, 826] (by decide +kernel) (by decide +kernel)
set_option maxRecDepth 20000 in
theorem gL_law_X11_dies : GoodIn wsL_law (wsV RL 51 RX11 yX11_dies wsX11_dies) := goodIn_app (goodIn_of _ (by decide +kernel)) ggL_law_X11_dies
set_option maxRecDepth 20000 in
theorem ggL_law_X10_wills : GoodIn wsL_law wsX10_wills := goodIn_r _ [507, 20, 24, 335, 336, 337, 2, 338, 15, 161, 162, 163, 320, 19, 321, 322, 69, 206, 207, 339, 340, 341, 342, 343, 344, 345, 319, 248, 249, 250, 251, 252, 453, 23, 454, 455, 456, 85, 256, 257, 258, 259, 260, 261, 231, 232, 233, 168, 169, 785, 786, 787, 788, 789, 790, 791, 792, 793, 794, 795, 796, 827, 828, 829, 830, 831, 832, 833, 834, 835, 836, 837, 838, 839] (by decide +kernel) (by decide +kernel)
set_option maxRecDepth 20000 in
theorem gL_law_X10_wills : GoodIn wsL_law (wsV RL 52 RX10 yX10_wills wsX10_wills) := goodIn_app (goodIn_of _ (by decide +kernel)) ggL_law_X10_wills
set_option maxRecDepth 20000 in
theorem ggL_law_X11_wills : GoodIn wsL_law wsX11_wills := goodIn_r _ [511, 147, 384, 385, 386, 5, 387, 138, 175, 176, 177, 388, 389, 390, 470, 471, 472, 473, 148, 149, 797, 798, 799, 800, 801, 802, 803, 804, 805, 806, 807, 808, 809, 810, 811, 812, 813, 814, 815, 816, 817, 818, 819, 820, 821, 822, 823, 824, 825, 826] (by decide +kernel) (by decide +kernel)
set_option maxRecDepth 20000 in
theorem gL_law_X11_wills : GoodIn wsL_law (wsV RL 55 RX11 yX11_wills wsX11_wills) := goodIn_app (goodIn_of _ (by decide +kernel)) ggL_law_X11_wills
set_option maxRecDepth 20000 in
theorem ggL_law_X10_year : GoodIn wsL_law wsX10_year := goodIn_r _ [515, 24, 20, 15, 516, 517, 359, 518, 453, 23, 454, 455, 456, 85, 256, 2, 257, 258, 259, 260, 261, 316, 19, 317, 318, 319, 320, 321, 322, 69, 206, 207, 231, 232, 233, 168, 169, 785, 786, 787, 788, 789, 790, 791, 792, 793, 794, 795, 796, 827, 828, 829, 830, 831, 832, 833, 834, 835, 836, 838, 839, 837] (by decide +kernel) (by decide +kernel)
set_option maxRecDepth 20000 in
theorem gL_law_X10_year : GoodIn wsL_law (wsV RL 56 RX10 yX10_year wsX10_year) := goodIn_app (goodIn_of _ (by decide +kernel)) ggL_law_X10_year
set_option maxRecDepth 20000 in
theorem ggL_law_X11_year : GoodIn wsL_law wsX11_year := goodIn_r _ [522, 141, 147, 470, 471, 472, 5, 473, 148, 149, 327, 328, 329, 330, 797, 798, 799, 800, 801, 802, 803, 804, 805, 806, 807, 808, 809, 810, 811, 812, 813, 814, 815, 816, 817, 818, 819, 820, 821, 822, 823, 824, 825, 826] (by decide +kernel) (by decide +kernel)
set_option maxRecDepth 20000 in
theorem gL_law_X11_year : GoodIn wsL_law (wsV RL 59 RX11 yX11_year wsX11_year) := goodIn_app (goodIn_of _ (by decide +kernel)) ggL_law_X11_year
set_option maxRecDepth 20000 in
theorem ggL_law_X10_hauls : GoodIn wsL_law wsX10_hauls := goodIn_r _ [526, 45, 24, 20, 516, 517, 359, 518, 335, 336, 337, 2, 338, 15, 161, 162, 163, 423, 424, 425, 426, 527, 44, 528, 529, 116, 115, 316, 19, 317, 318, 319, 320, 321, 322, 69, 206, 207, 349, 350, 351, 352, 339, 340, 341, 342, 343, 344, 345, 248, 249, 250, 251, 252, 314, 315, 453, 23, 454, 455, 456, 85, 256, 257, 258, 259, 260, 261, 354, 355, 356, 357, 358, 360, 231, 232, 233, 168, 169, 785, 786, 787, 788, 789, 790, 791, 792, 793, 794, 795, 796, 827, 828, 829, 830, 831, 832, 833, 834, 835, 836, 858, 859, 837, 838, 839] (by decide +kernel) (by decide +kernel)
set_option maxRecDepth 20000 in
theorem gL_law_X10_hauls : GoodIn wsL_law (wsV RL 60 RX10 yX10_hauls wsX10_hauls) := goodIn_app (goodIn_of _ (by decide +kernel)) ggL_law_X10_hauls
set_option maxRecDepth 20000 in
theorem ggL_law_X11_hauls : GoodIn wsL_law wsX11_hauls := goodIn_r _ [533, 141, 147, 384, 385, 386, 5, 387, 138, 175, 176, 177, 438, 439, 440, 441, 327, 328, 329, 330, 395, 396, 397, 398, 142, 388, 389, 390, 470, 471, 472, 473, 148, 149, 399, 400, 401, 402, 146, 797, 798, 799, 800, 801, 802, 803, 804, 805, 806, 807, 808, 809, 810, 811, 812, 813, 814, 815, 816, 817, 818, 819, 820, 821, 822, 823, 824, 825, 826] (by decide +kernel) (by decide +kernel)
set_option maxRecDepth 20000 in
theorem gL_law_X11_hauls : GoodIn wsL_law (wsV RL 63 RX11 yX11_hauls wsX11_hauls) := goodIn_app (goodIn_of _ (by decide +kernel)) ggL_law_X11_hauls
set_option maxRecDepth 20000 in
theorem ggL_law_X10_undo : GoodIn wsL_law wsX10_undo := goodIn_r _ [537, 24, 20, 538, 23, 539, 540, 456, 85, 256, 2, 257, 258, 259, 260, 261, 785, 786, 787, 788, 789, 790, 791, 792, 793, 794, 795, 796, 838, 839, 837] (by decide +kernel) (by decide +kernel)
set_option maxRecDepth 20000 in
theorem gL_law_X10_undo : GoodIn wsL_law (wsV RL 64 RX10 yX10_undo wsX10_undo) := goodIn_app (goodIn_of _ (by decide +kernel)) ggL_law_X10_undo
set_option maxRecDepth 20000 in
theorem ggL_law_X11_undo : GoodIn wsL_law wsX11_undo := goodIn_r _ [544, 148, 147, 149, 797, 798, 799, 800, 801, 802, 803, 804, 805, 806, 807, 808, 809, 810, 811, 812, 813, 814, 815, 816, 817, 818, 819, 820, 821, 822, 823, 824, 825, 826] (by decide +kernel) (by decide +kernel)
set_option maxRecDepth 20000 in
theorem gL_law_X11_undo : GoodIn wsL_law (wsV RL 67 RX11 yX11_undo wsX11_undo) := goodIn_app (goodIn_of _ (by decide +kernel)) ggL_law_X11_undo
set_option maxRecDepth 20000 in
theorem ggL_law_X10_now : GoodIn wsL_law wsX10_now := goodIn_r _ [548, 20, 45, 15, 161, 162, 2, 163, 343, 19, 344, 345, 319, 320, 321, 322, 69, 206, 207, 549, 44, 550, 551, 115, 116, 552, 553, 554, 250, 251, 252, 785, 786, 787, 788, 789, 790, 791, 792, 793, 794, 795, 796, 837, 858, 859, 827, 828, 829, 830, 831, 832, 833, 834, 835, 836] (by decide +kernel) (by decide +kernel)
set_option maxRecDepth 20000 in
theorem gL_law_X10_now : GoodIn wsL_law (wsV RL 68 RX10 yX10_now wsX10_now) := goodIn_app (goodIn_of _ (by decide +kernel)) ggL_law_X10_now
set_option maxRecDepth 20000 in
theorem ggL_law_X11_now : GoodIn wsL_law wsX11_now := goodIn_r _ [558, 147, 138, 559, 560, 561, 5, 562, 141, 797, 798, 799, 800, 801, 802, 803, 804, 805, 806, 807, 808, 809, 810, 811, 812, 813, 814, 815, 816, 817, 818, 819, 820, 821, 822, 823, 824, 825, 826] (by decide +kernel) (by decide +kernel)
set_option maxRecDepth 20000 in
theorem gL_law_X11_now : GoodIn wsL_law (wsV RL 71 RX11 yX11_now wsX11_now) := goodIn_app (goodIn_of _ (by decide +kernel)) ggL_law_X11_now
set_option maxRecDepth 20000 in
theorem ggL_law_X10_needs : GoodIn wsL_law wsX10_needs := goodIn_r _ [566, 20, 37, 423, 424, 425, 2, 426, 15, 161, 162, 163, 450, 451, 452, 316, 19, 317, 318, 319, 320, 321, 322, 69, 206, 207, 567, 36, 568, 569, 104, 103, 375, 14, 376, 377, 61, 59, 58, 378, 379, 785, 786, 787, 788, 789, 790, 791, 792, 793, 794, 795, 796, 827, 828, 829, 830, 831, 832, 833, 834, 835, 836, 837, 850, 851, 852, 853] (by decide +kernel) (by decide +kernel)
set_option maxRecDepth 20000 in
theorem gL_law_X10_needs : GoodIn wsL_law (wsV RL 72 RX10 yX10_needs wsX10_needs) := goodIn_app (goodIn_of _ (by decide +kernel)) ggL_law_X10_needs
set_option maxRecDepth 20000 in
theorem ggL_law_X11_needs : GoodIn wsL_law wsX11_needs := goodIn_r _ [573, 147, 144, 137, 136, 438, 439, 440, 5, 441, 141, 175, 176, 177, 464, 465, 466, 327, 328, 329, 330, 797, 798, 799, 800, 801, 802, 803, 804, 805, 806, 807, 808, 809, 810, 811, 812, 813, 814, 815, 816, 817, 818, 819, 820, 821, 822, 823, 824, 825, 826] (by decide +kernel) (by decide +kernel)
set_option maxRecDepth 20000 in
theorem gL_law_X11_needs : GoodIn wsL_law (wsV RL 75 RX11 yX11_needs wsX11_needs) := goodIn_app (goodIn_of _ (by decide +kernel)) ggL_law_X11_needs
set_option maxRecDepth 20000 in
theorem ggL_law_X10_after : GoodIn wsL_law wsX10_after := goodIn_r _ [577, 37, 423, 424, 425, 2, 426, 15, 161, 162, 163, 450, 451, 452, 578, 36, 579, 580, 101, 104, 262, 19, 263, 264, 69, 256, 257, 258, 259, 260, 261, 581, 457, 458, 459, 103, 102, 430, 431, 432, 433, 77, 78, 316, 317, 318, 319, 320, 321, 322, 206, 207, 371, 14, 372, 373, 374, 375, 376, 377, 61, 59, 58, 378, 379, 168, 169, 231, 232, 233, 785, 786, 787, 788, 789, 790, 791, 792, 793, 794, 795, 796, 827, 828, 829, 830, 831, 832, 833, 834, 835, 836, 850, 851, 852, 853, 837] (by decide +kernel) (by decide +kernel)
set_option maxRecDepth 20000 in
theorem gL_law_X10_after : GoodIn wsL_law (wsV RL 76 RX10 yX10_after wsX10_after) := goodIn_app (goodIn_of _ (by decide +kernel)) ggL_law_X10_after
set_option maxRecDepth 20000 in
theorem ggL_law_X11_after : GoodIn wsL_law wsX11_after := goodIn_r _ [585, 147, 438, 439, 440, 5, 441, 141, 175, 176, 177, 464, 465, 466, 467, 468, 469, 327, 328, 329, 330, 442, 443, 444, 445, 411, 412, 413, 414, 415, 416, 417, 418, 144, 137, 136, 797, 798, 799, 800, 801, 802, 803, 804, 805, 806, 807, 808, 809, 810, 811, 812, 813, 814, 815, 816, 817, 818, 819, 820, 821, 822, 823, 824, 825, 826] (by decide +kernel) (by decide +kernel)
set_option maxRecDepth 20000 in
theorem gL_law_X11_after : GoodIn wsL_law (wsV RL 80 RX11 yX11_after wsX11_after) := goodIn_app (goodIn_of _ (by decide +kernel)) ggL_law_X11_after
set_option maxRecDepth 20000 in
theorem ggL_law_X10_wreck : GoodIn wsL_law wsX10_wreck := goodIn_r _ [589, 37, 450, 451, 2, 452, 161, 162, 163, 590, 36, 591, 592, 101, 104, 251, 252, 593, 594, 595, 248, 249, 250, 262, 19, 263, 264, 69, 256, 257, 258, 259, 260, 261, 581, 457, 458, 459, 103, 102, 430, 431, 432, 433, 77, 78, 316, 317, 318, 319, 320, 321, 322, 206, 207, 371, 14, 372, 373, 374, 375, 376, 377, 61, 59, 58, 378, 379, 168, 169, 231, 232, 233, 785, 786, 787, 788, 789, 790, 791, 792, 793, 794, 795, 796, 850, 851, 852, 853, 837, 827, 828, 829, 830, 831, 832, 833, 834, 835, 836] (by decide +kernel) (by decide +kernel)
set_option maxRecDepth 20000 in
theorem gL_law_X10_wreck : GoodIn wsL_law (wsV RL 81 RX10 yX10_wreck wsX10_wreck) := goodIn_app (goodIn_of _ (by decide +kernel)) ggL_law_X10_wreck
set_option maxRecDepth 20000 in
theorem ggL_law_X11_wreck : GoodIn wsL_law wsX11_wreck := goodIn_r _ [599, 153, 147, 464, 465, 5, 466, 175, 176, 177, 474, 475, 476, 477, 141, 327, 328, 329, 330, 442, 443, 444, 445, 411, 412, 413, 414, 415, 416, 417, 418, 144, 137, 136, 388, 389, 390, 797, 798, 799, 800, 801, 802, 803, 804, 805, 806, 807, 808, 809, 810, 811, 812, 813, 814, 815, 816, 817, 818, 819, 820, 821, 822, 823, 824, 825, 826] (by decide +kernel) (by decide +kernel)
set_option maxRecDepth 20000 in
theorem gL_law_X11_wreck : GoodIn wsL_law (wsV RL 84 RX11 yX11_wreck wsX11_wreck) := goodIn_app (goodIn_of _ (by decide +kernel)) ggL_law_X11_wreck
set_option maxRecDepth 20000 in
theorem ggL_law_X10_place : GoodIn wsL_law wsX10_place := goodIn_r _ [603, 15, 20, 41, 250, 251, 2, 252, 161, 162, 163, 450, 451, 452, 423, 424, 425, 426, 604, 248, 249, 552, 553, 554, 320, 19, 321, 322, 69, 206, 207, 605, 40, 606, 607, 109, 108, 77, 78, 608, 609, 610, 611, 110, 111, 314, 315, 316, 317, 318, 319, 612, 613, 614, 615, 616, 617, 618, 619, 620, 621, 622, 375, 14, 376, 377, 61, 59, 58, 378, 379, 168, 169, 623, 624, 625, 626, 785, 786, 787, 788, 789, 790, 791, 792, 793, 794, 795, 796, 827, 828, 829, 830, 831, 832, 833, 834, 835, 836, 837, 854, 855, 856, 857] (by decide +kernel) (by decide +kernel)
set_option maxRecDepth 20000 in
theorem gL_law_X10_place : GoodIn wsL_law (wsV RL 85 RX10 yX10_place wsX10_place) := goodIn_app (goodIn_of _ (by decide +kernel)) ggL_law_X10_place
set_option maxRecDepth 20000 in
theorem ggL_law_X11_place : GoodIn wsL_law wsX11_place := goodIn_r _ [630, 141, 147, 154, 175, 176, 5, 177, 464, 465, 466, 438, 439, 440, 441, 388, 389, 390, 559, 560, 561, 562, 327, 328, 329, 330, 631, 632, 633, 634, 415, 416, 417, 418, 144, 137, 136, 797, 798, 799, 800, 801, 802, 803, 804, 805, 806, 807, 808, 809, 810, 811, 812, 813, 814, 815, 816, 817, 818, 819, 820, 821, 822, 823, 824, 825, 826] (by decide +kernel) (by decide +kernel)
set_option maxRecDepth 20000 in
theorem gL_law_X11_place : GoodIn wsL_law (wsV RL 88 RX11 yX11_place wsX11_place) := goodIn_app (goodIn_of _ (by decide +kernel)) ggL_law_X11_place
set_option maxRecDepth 20000 in
theorem ggL_law_X10_vital : GoodIn wsL_law wsX10_vital := goodIn_r _ [638, 45, 335, 336, 337, 2, 338, 15, 161, 162, 163, 450, 451, 452, 639, 44, 640, 641, 115, 116, 642, 361, 362, 363, 251, 252, 248, 249, 250, 206, 207, 643, 364, 365, 366, 367, 368, 369, 370, 316, 19, 317, 318, 319, 320, 321, 322, 69, 371, 14, 372, 373, 374, 375, 376, 377, 61, 59, 58, 378, 379, 785, 786, 787, 788, 789, 790, 791, 792, 793, 794, 795, 796, 827, 828, 829, 830, 831, 832, 833, 834, 835, 836, 858, 859, 837] (by decide +kernel) (by decide +kernel)
set_option maxRecDepth 20000 in
theorem gL_law_X10_vital : GoodIn wsL_law (wsV RL 89 RX10 yX10_vital wsX10_vital) := goodIn_app (goodIn_of _ (by decide +kernel)) ggL_law_X10_vital
set_option maxRecDepth 20000 in
theorem ggL_law_X11_vital : GoodIn wsL_law wsX11_vital := goodIn_r _ [647, 141, 142, 384, 385, 386, 5, 387, 138, 175, 176, 177, 464, 465, 466, 403, 404, 405, 406, 140, 388, 389, 390, 407, 408, 409, 410, 327, 328, 329, 330, 147, 411, 412, 413, 414, 415, 416, 417, 418, 144, 137, 136, 797, 798, 799, 800, 801, 802, 803, 804, 805, 806, 807, 808, 809, 810, 811, 812, 813, 814, 815, 816, 817, 818, 819, 820, 821, 822, 823, 824, 825, 826] (by decide +kernel) (by decide +kernel)
set_option maxRecDepth 20000 in
theorem gL_law_X11_vital : GoodIn wsL_law (wsV RL 92 RX11 yX11_vital wsX11_vital) := goodIn_app (goodIn_of _ (by decide +kernel)) ggL_law_X11_vital
set_option maxRecDepth 20000 in
theorem ggL_law_X10_odds : GoodIn wsL_law wsX10_odds := goodIn_r _ [651, 20, 37, 516, 517, 359, 518, 423, 424, 425, 2, 426, 15, 161, 162, 163, 450, 451, 452, 316, 19, 317, 318, 319, 320, 321, 322, 69, 206, 207, 427, 36, 428, 429, 104, 102, 430, 431, 432, 433, 103, 77, 78, 371, 14, 372, 373, 374, 375, 376, 377, 61, 59, 58, 378, 379, 168, 169, 652, 653, 654, 655, 358, 360, 656, 657, 658, 659, 785, 786, 787, 788, 789, 790, 791, 792, 793, 794, 795, 796, 827, 828, 829, 830, 831, 832, 833, 834, 835, 836, 837, 850, 851, 852, 853] (by decide +kernel) (by decide +kernel)
set_option maxRecDepth 20000 in
theorem gL_law_X10_odds : GoodIn wsL_law (wsV RL 93 RX10 yX10_odds wsX10_odds) := goodIn_app (goodIn_of _ (by decide +kernel)) ggL_law_X10_odds
set_option maxRecDepth 20000 in
theorem ggL_law_X11_odds : GoodIn wsL_law wsX11_odds := goodIn_r _ [663, 438, 439, 440, 5, 441, 141, 175, 176, 177, 464, 465, 466, 327, 328, 329, 330, 147, 442, 443, 444, 445, 411, 412, 413, 414, 415, 416, 417, 418, 144, 137, 136, 797, 798, 799, 800, 801, 802, 803, 804, 805, 806, 807, 808, 809, 810, 811, 812, 813, 814, 815, 816, 817, 818, 819, 820, 821, 822, 823, 824, 825, 826] (by decide +kernel) (by decide +kernel)
set_option maxRecDepth 20000 in
theorem gL_law_X11_odds : GoodIn wsL_law (wsV RL 97 RX11 yX11_odds wsX11_odds) := goodIn_app (goodIn_of _ (by decide +kernel)) ggL_law_X11_odds
set_option maxRecDepth 20000 in
theorem ggL_law_X10_hears : GoodIn wsL_law wsX10_hears := goodIn_r _ [667, 49, 450, 451, 2, 452, 161, 162, 163, 668, 48, 669, 670, 671, 120, 121, 168, 169, 785, 786, 787, 788, 789, 790, 791, 792, 793, 794, 795, 796, 860, 861, 862, 863, 864, 865] (by decide +kernel) (by decide +kernel)
set_option maxRecDepth 20000 in
theorem gL_law_X10_hears : GoodIn wsL_law (wsV RL 98 RX10 yX10_hears wsX10_hears) := goodIn_app (goodIn_of _ (by decide +kernel)) ggL_law_X10_hears
set_option maxRecDepth 20000 in
theorem ggL_law_X11_hears : GoodIn wsL_law wsX11_hears := goodIn_r _ [675, 271, 155, 156, 464, 465, 5, 466, 175, 176, 177, 797, 798, 799, 800, 801, 802, 803, 804, 805, 806, 807, 808, 809, 810, 811, 812, 813, 814, 815, 816, 817, 818, 819, 820, 821, 822, 823, 824, 825, 826] (by decide +kernel) (by decide +kernel)
set_option maxRecDepth 20000 in
theorem gL_law_X11_hears : GoodIn wsL_law (wsV RL 101 RX11 yX11_hears wsX11_hears) := goodIn_app (goodIn_of _ (by decide +kernel)) ggL_law_X11_hears
set_option maxRecDepth 20000 in
theorem ggL_law_X10_forget : GoodIn wsL_law wsX10_forget := goodIn_r _ [679, 49, 785, 786, 787, 788, 789, 790, 791, 792, 793, 794, 795, 796, 860, 861, 862, 863, 864, 865] (by decide +kernel) (by decide +kernel)
set_option maxRecDepth 20000 in
theorem gL_law_X10_forget : GoodIn wsL_law (wsV RL 102 RX10 yX10_forget wsX10_forget) := goodIn_app (goodIn_of _ (by decide +kernel)) ggL_law_X10_forget
set_option maxRecDepth 20000 in
theorem ggL_law_X11_forget : GoodIn wsL_law wsX11_forget := goodIn_r _ [683, 271, 797, 798, 799, 800, 801, 802, 803, 804, 805, 806, 807, 808, 809, 810, 811, 812, 813, 814, 815, 816, 817, 818, 819, 820, 821, 822, 823, 824, 825, 826] (by decide +kernel) (by decide +kernel)
set_option maxRecDepth 20000 in
theorem gL_law_X11_forget : GoodIn wsL_law (wsV RL 105 RX11 yX11_forget wsX11_forget) := goodIn_app (goodIn_of _ (by decide +kernel)) ggL_law_X11_forget
set_option maxRecDepth 20000 in
theorem ggL_law_X10_fits : GoodIn wsL_law wsX10_fits := goodIn_r _ [687, 49, 688, 48, 689, 690, 123, 124, 671, 120, 121, 691, 692, 693, 694, 122, 371, 14, 372, 373, 320, 19, 321, 322, 69, 206, 2, 207, 374, 375, 376, 377, 61, 59, 58, 378, 379, 168, 169, 553, 554, 250, 251, 252, 695, 696, 697, 698, 785, 786, 787, 788, 789, 790, 791, 792, 793, 794, 795, 796, 860, 861, 862, 863, 864, 865, 827, 828, 829, 830, 831, 832, 833, 834, 835, 836, 837] (by decide +kernel) (by decide +kernel)
set_option maxRecDepth 20000 in
theorem gL_law_X10_fits : GoodIn wsL_law (wsV RL 106 RX10 yX10_fits wsX10_fits) := goodIn_app (goodIn_of _ (by decide +kernel)) ggL_law_X10_fits
set_option maxRecDepth 20000 in
theorem ggL_law_X11_fits : GoodIn wsL_law wsX11_fits := goodIn_r _ [702, 141, 271, 155, 156, 327, 328, 329, 5, 330, 147, 411, 412, 413, 414, 415, 416, 417, 418, 144, 137, 136, 797, 798, 799, 800, 801, 802, 803, 804, 805, 806, 807, 808, 809, 810, 811, 812, 813, 814, 815, 816, 817, 818, 819, 820, 821, 822, 823, 824, 825, 826] (by decide +kernel) (by decide +kernel)
set_option maxRecDepth 20000 in
theorem gL_law_X11_fits : GoodIn wsL_law (wsV RL 109 RX11 yX11_fits wsX11_fits) := goodIn_app (goodIn_of _ (by decide +kernel)) ggL_law_X11_fits
set_option maxRecDepth 20000 in
theorem ggL_law_X10_ask : GoodIn wsL_law wsX10_ask := goodIn_r _ [706, 49, 707, 48, 708, 709, 710, 358, 359, 360, 711, 688, 689, 690, 123, 124, 671, 120, 121, 691, 692, 693, 694, 122, 371, 14, 372, 373, 320, 19, 321, 322, 69, 206, 2, 207, 374, 375, 376, 377, 61, 59, 58, 378, 379, 168, 169, 553, 554, 250, 251, 252, 695, 696, 697, 698, 712, 491, 492, 493, 494, 495, 496, 785, 786, 787, 788, 789, 790, 791, 792, 793, 794, 795, 796, 860, 861, 862, 863, 864, 865, 827, 828, 829, 830, 831, 832, 833, 834, 835, 836, 837] (by decide +kernel) (by decide +kernel)
set_option maxRecDepth 20000 in
theorem gL_law_X10_ask : GoodIn wsL_law (wsV RL 110 RX10 yX10_ask wsX10_ask) := goodIn_app (goodIn_of _ (by decide +kernel)) ggL_law_X10_ask
set_option maxRecDepth 20000 in
theorem ggL_law_X11_ask : GoodIn wsL_law wsX11_ask := goodIn_r _ [716, 141, 717, 700, 701, 5, 702, 271, 155, 156, 327, 328, 329, 330, 147, 411, 412, 413, 414, 415, 416, 417, 418, 144, 137, 136, 501, 502, 503, 388, 389, 390, 797, 798, 799, 800, 801, 802, 803, 804, 805, 806, 807, 808, 809, 810, 811, 812, 813, 814, 815, 816, 817, 818, 819, 820, 821, 822, 823, 824, 825, 826] (by decide +kernel) (by decide +kernel)
set_option maxRecDepth 20000 in
theorem gL_law_X11_ask : GoodIn wsL_law (wsV RL 113 RX11 yX11_ask wsX11_ask) := goodIn_app (goodIn_of _ (by decide +kernel)) ggL_law_X11_ask
set_option maxRecDepth 20000 in
theorem ggL_law_X10_mark : GoodIn wsL_law wsX10_mark := goodIn_r _ [721, 722, 53, 161, 162, 2, 163, 423, 424, 425, 426, 15, 723, 52, 724, 725, 726, 128, 129, 727, 206, 207, 371, 14, 372, 373, 320, 19, 321, 322, 69, 374, 375, 376, 377, 61, 59, 58, 378, 379, 728, 785, 786, 787, 788, 789, 790, 791, 792, 793, 794, 795, 796, 827, 828, 829, 830, 831, 832, 833, 834, 835, 836, 866, 867, 868, 837] (by decide +kernel) (by decide +kernel)
set_option maxRecDepth 20000 in
theorem gL_law_X10_mark : GoodIn wsL_law (wsV RL 114 RX10 yX10_mark wsX10_mark) := goodIn_app (goodIn_of _ (by decide +kernel)) ggL_law_X10_mark
set_option maxRecDepth 20000 in
theorem ggL_law_X11_mark : GoodIn wsL_law wsX11_mark := goodIn_r _ [732, 733, 734, 735, 146, 147, 142, 175, 176, 5, 177, 438, 439, 440, 441, 141, 736, 737, 738, 388, 389, 390, 411, 412, 413, 414, 415, 416, 417, 418, 144, 137, 136, 797, 798, 799, 800, 801, 802, 803, 804, 805, 806, 807, 808, 809, 810, 811, 812, 813, 814, 815, 816, 817, 818, 819, 820, 821, 822, 823, 824, 825, 826] (by decide +kernel) (by decide +kernel)
set_option maxRecDepth 20000 in
theorem gL_law_X11_mark : GoodIn wsL_law (wsV RL 117 RX11 yX11_mark wsX11_mark) := goodIn_app (goodIn_of _ (by decide +kernel)) ggL_law_X11_mark
set_option maxRecDepth 20000 in
theorem ggL_law_X10_keep : GoodIn wsL_law wsX10_keep := goodIn_r _ [742, 20, 24, 15, 161, 162, 2, 163, 743, 744, 745, 746, 28, 29, 747, 27, 748, 749, 90, 92, 750, 262, 19, 263, 264, 69, 256, 257, 258, 259, 260, 261, 751, 23, 752, 753, 85, 456, 552, 553, 554, 320, 321, 322, 206, 207, 250, 251, 252, 785, 786, 787, 788, 789, 790, 791, 792, 793, 794, 795, 796, 840, 841, 842, 837, 838, 839, 827, 828, 829, 830, 831, 832, 833, 834, 835, 836] (by decide +kernel) (by decide +kernel)
set_option maxRecDepth 20000 in
theorem gL_law_X10_keep : GoodIn wsL_law (wsV RL 118 RX10 yX10_keep wsX10_keep) := goodIn_app (goodIn_of _ (by decide +kernel)) ggL_law_X10_keep
set_option maxRecDepth 20000 in
theorem ggL_law_X11_keep : GoodIn wsL_law wsX11_keep := goodIn_r _ [757, 150, 147, 149, 148, 152, 175, 176, 5, 177, 559, 560, 561, 562, 141, 797, 798, 799, 800, 801, 802, 803, 804, 805, 806, 807, 808, 809, 810, 811, 812, 813, 814, 815, 816, 817, 818, 819, 820, 821, 822, 823, 824, 825, 826] (by decide +kernel) (by decide +kernel)
set_option maxRecDepth 20000 in
theorem gL_law_X11_keep : GoodIn wsL_law (wsV RL 121 RX11 yX11_keep wsX11_keep) := goodIn_app (goodIn_of _ (by decide +kernel)) ggL_law_X11_keep
set_option maxRecDepth 20000 in
theorem ggL_law_X10_back : GoodIn wsL_law wsX10_back := goodIn_r _ [761, 20, 24, 15, 161, 162, 2, 163, 743, 744, 745, 746, 28, 29, 762, 27, 763, 764, 90, 92, 262, 19, 263, 264, 69, 256, 257, 258, 259, 260, 261, 751, 23, 752, 753, 85, 456, 552, 553, 554, 320, 321, 322, 206, 207, 250, 251, 252, 840, 841, 842, 785, 786, 787, 788, 789, 790, 791, 792, 793, 794, 795, 796, 837, 838, 839, 827, 828, 829, 830, 831, 832, 833, 834, 835, 836] (by decide +kernel) (by decide +kernel)
set_option maxRecDepth 20000 in
theorem gL_law_X10_back : GoodIn wsL_law (wsV RL 122 RX10 yX10_back wsX10_back) := goodIn_app (goodIn_of _ (by decide +kernel)) ggL_law_X10_back
set_option maxRecDepth 20000 in
theorem ggL_law_X11_back : GoodIn wsL_law wsX11_back := goodIn_r _ [768, 152, 147, 150, 149, 148, 175, 176, 5, 177, 559, 560, 561, 562, 141, 797, 798, 799, 800, 801, 802, 803, 804, 805, 806, 807, 808, 809, 810, 811, 812, 813, 814, 815, 816, 817, 818, 819, 820, 821, 822, 823, 824, 825, 826] (by decide +kernel) (by decide +kernel)
set_option maxRecDepth 20000 in
theorem gL_law_X11_back : GoodIn wsL_law (wsV RL 125 RX11 yX11_back wsX11_back) := goodIn_app (goodIn_of _ (by decide +kernel)) ggL_law_X11_back
set_option maxRecDepth 20000 in
theorem ggL_law_X10_count : GoodIn wsL_law wsX10_count := goodIn_r _ [772, 15, 49, 24, 33, 785, 786, 787, 788, 789, 790, 791, 792, 793, 794, 795, 796, 827, 828, 829, 830, 831, 832, 833, 834, 835, 836, 860, 861, 862, 863, 864, 865, 838, 839, 843, 844, 845, 846, 847, 848, 849] (by decide +kernel) (by decide +kernel)
set_option maxRecDepth 20000 in
theorem gL_law_X10_count : GoodIn wsL_law (wsV RL 126 RX10 yX10_count wsX10_count) := goodIn_app (goodIn_of _ (by decide +kernel)) ggL_law_X10_count
set_option maxRecDepth 20000 in
theorem ggL_law_X11_count : GoodIn wsL_law wsX11_count := goodIn_r _ [776, 138, 141, 140, 271, 148, 174, 501, 502, 5, 503, 797, 798, 799, 800, 801, 802, 803, 804, 805, 806, 807, 808, 809, 810, 811, 812, 813, 814, 815, 816, 817, 818, 819, 820, 821, 822, 823, 824, 825, 826] (by decide +kernel) (by decide +kernel)
set_option maxRecDepth 20000 in
theorem gL_law_X11_count : GoodIn wsL_law (wsV RL 129 RX11 yX11_count wsX11_count) := goodIn_app (goodIn_of _ (by decide +kernel)) ggL_law_X11_count
set_option maxRecDepth 20000 in
theorem ggL_law_X10_trace : GoodIn wsL_law wsX10_trace := goodIn_r _ [780, 53, 785, 786, 787, 788, 789, 790, 791, 792, 793, 794, 795, 796, 866, 867, 868] (by decide +kernel) (by decide +kernel)
set_option maxRecDepth 20000 in
theorem gL_law_X10_trace : GoodIn wsL_law (wsV RL 130 RX10 yX10_trace wsX10_trace) := goodIn_app (goodIn_of _ (by decide +kernel)) ggL_law_X10_trace
set_option maxRecDepth 20000 in
theorem ggL_law_X11_trace : GoodIn wsL_law wsX11_trace := goodIn_r _ [784, 734, 797, 798, 799, 800, 801, 802, 803, 804, 805, 806, 807, 808, 809, 810, 811, 812, 813, 814, 815, 816, 817, 818, 819, 820, 821, 822, 823, 824, 825, 826] (by decide +kernel) (by decide +kernel)
set_option maxRecDepth 20000 in
theorem gL_law_X11_trace : GoodIn wsL_law (wsV RL 134 RX11 yX11_trace wsX11_trace) := goodIn_app (goodIn_of _ (by decide +kernel)) ggL_law_X11_trace
theorem dL_law_0 : decode cL_law 0 = .ok (.new 7, 3) := by decide +kernel
theorem dL_law_3 : decode cL_law 3 = .ok (.dup, 1) := by decide +kernel
theorem dL_law_4 : decode cL_law 4 = .ok (.invokespecial 9, 3) := by decide +kernel
theorem dL_law_7 : decode cL_law 7 = .ok (.astore_n 1, 1) := by decide +kernel
theorem dL_law_8 : decode cL_law 8 = .ok (.new 10, 3) := by decide +kernel
theorem dL_law_11 : decode cL_law 11 = .ok (.dup, 1) := by decide +kernel
theorem dL_law_12 : decode cL_law 12 = .ok (.invokespecial 12, 3) := by decide +kernel
theorem dL_law_15 : decode cL_law 15 = .ok (.astore_n 2, 1) := by decide +kernel
theorem dL_law_16 : decode cL_law 16 = .ok (.iconst 0, 1) := by decide +kernel
theorem dL_law_17 : decode cL_law 17 = .ok (.istore_n 3, 1) := by decide +kernel
theorem dL_law_18 : decode cL_law 18 = .ok (.iload_n 3, 1) := by decide +kernel
theorem dL_law_19 : decode cL_law 19 = .ok (.aload_n 0, 1) := by decide +kernel
theorem dL_law_20 : decode cL_law 20 = .ok (.arraylength, 1) := by decide +kernel
theorem dL_law_21 : decode cL_law 21 = .ok (.iconst 5, 1) := by decide +kernel
theorem dL_law_22 : decode cL_law 22 = .ok (.isub, 1) := by decide +kernel
theorem dL_law_23 : decode cL_law 23 = .ok (.if_icmp .gt 935, 3) := by decide +kernel
theorem dL_law_26 : decode cL_law 26 = .ok (.aload_n 0, 1) := by decide +kernel
theorem dL_law_27 : decode cL_law 27 = .ok (.iload_n 3, 1) := by decide +kernel
theorem dL_law_28 : decode cL_law 28 = .ok (.iaload, 1) := by decide +kernel
theorem dL_law_29 : decode cL_law 29 = .ok (.bipush 31, 2) := by decide +kernel
theorem dL_law_31 : decode cL_law 31 = .ok (.iand, 1) := by decide +kernel
theorem dL_law_32 : decode cL_law 32 = .ok (.tableswitch 920 0 28 #[132, 155, 168, 181, 214, 247, 280, 313, 346, 369, 402, 415, 448, 461, 484, 517, 560, 603, 646, 679, 732, 765, 778, 791, 804, 837, 860, 883, 906], 132) := by decide +kernel
theorem dL_law_164 : decode cL_law 164 = .ok (.aload_n 1, 1) := by decide +kernel
theorem dL_law_165 : decode cL_law 165 = .ok (.aload_n 0, 1) := by decide +kernel
theorem dL_law_166 : decode cL_law 166 = .ok (.iload_n 3, 1) := by decide +kernel
theorem dL_law_167 : decode cL_law 167 = .ok (.iconst 1, 1) := by decide +kernel
theorem dL_law_168 : decode cL_law 168 = .ok (.iadd, 1) := by decide +kernel
theorem dL_law_169 : decode cL_law 169 = .ok (.iaload, 1) := by decide +kernel
theorem dL_law_170 : decode cL_law 170 = .ok (.invokevirtual 13, 3) := by decide +kernel
theorem dL_law_173 : decode cL_law 173 = .ok (.aload_n 2, 1) := by decide +kernel
theorem dL_law_174 : decode cL_law 174 = .ok (.aload_n 0, 1) := by decide +kernel
theorem dL_law_175 : decode cL_law 175 = .ok (.iload_n 3, 1) := by decide +kernel
theorem dL_law_176 : decode cL_law 176 = .ok (.iconst 1, 1) := by decide +kernel
theorem dL_law_177 : decode cL_law 177 = .ok (.iadd, 1) := by decide +kernel
theorem dL_law_178 : decode cL_law 178 = .ok (.iaload, 1) := by decide +kernel
theorem dL_law_179 : decode cL_law 179 = .ok (.invokevirtual 17, 3) := by decide +kernel
theorem dL_law_182 : decode cL_law 182 = .ok (.if_icmp .eq 770, 3) := by decide +kernel
theorem dL_law_185 : decode cL_law 185 = .ok (.iconst 0, 1) := by decide +kernel
theorem dL_law_186 : decode cL_law 186 = .ok (.ireturn, 1) := by decide +kernel
theorem dL_law_187 : decode cL_law 187 = .ok (.aload_n 1, 1) := by decide +kernel
theorem dL_law_188 : decode cL_law 188 = .ok (.invokevirtual 18, 3) := by decide +kernel
theorem dL_law_191 : decode cL_law 191 = .ok (.aload_n 2, 1) := by decide +kernel
theorem dL_law_192 : decode cL_law 192 = .ok (.invokevirtual 22, 3) := by decide +kernel
theorem dL_law_195 : decode cL_law 195 = .ok (.if_icmp .eq 757, 3) := by decide +kernel
theorem dL_law_198 : decode cL_law 198 = .ok (.iconst 0, 1) := by decide +kernel
theorem dL_law_199 : decode cL_law 199 = .ok (.ireturn, 1) := by decide +kernel
theorem dL_law_200 : decode cL_law 200 = .ok (.aload_n 1, 1) := by decide +kernel
theorem dL_law_201 : decode cL_law 201 = .ok (.invokevirtual 23, 3) := by decide +kernel
theorem dL_law_204 : decode cL_law 204 = .ok (.aload_n 2, 1) := by decide +kernel
theorem dL_law_205 : decode cL_law 205 = .ok (.invokevirtual 26, 3) := by decide +kernel
theorem dL_law_208 : decode cL_law 208 = .ok (.if_icmp .eq 744, 3) := by decide +kernel
theorem dL_law_211 : decode cL_law 211 = .ok (.iconst 0, 1) := by decide +kernel
theorem dL_law_212 : decode cL_law 212 = .ok (.ireturn, 1) := by decide +kernel
theorem dL_law_213 : decode cL_law 213 = .ok (.aload_n 1, 1) := by decide +kernel
theorem dL_law_214 : decode cL_law 214 = .ok (.aload_n 0, 1) := by decide +kernel
theorem dL_law_215 : decode cL_law 215 = .ok (.iload_n 3, 1) := by decide +kernel
theorem dL_law_216 : decode cL_law 216 = .ok (.iconst 1, 1) := by decide +kernel
theorem dL_law_217 : decode cL_law 217 = .ok (.iadd, 1) := by decide +kernel
theorem dL_law_218 : decode cL_law 218 = .ok (.iaload, 1) := by decide +kernel
theorem dL_law_219 : decode cL_law 219 = .ok (.aload_n 0, 1) := by decide +kernel
theorem dL_law_220 : decode cL_law 220 = .ok (.iload_n 3, 1) := by decide +kernel
theorem dL_law_221 : decode cL_law 221 = .ok (.iconst 2, 1) := by decide +kernel
theorem dL_law_222 : decode cL_law 222 = .ok (.iadd, 1) := by decide +kernel
theorem dL_law_223 : decode cL_law 223 = .ok (.iaload, 1) := by decide +kernel
theorem dL_law_224 : decode cL_law 224 = .ok (.invokevirtual 27, 3) := by decide +kernel
theorem dL_law_227 : decode cL_law 227 = .ok (.aload_n 2, 1) := by decide +kernel
theorem dL_law_228 : decode cL_law 228 = .ok (.aload_n 0, 1) := by decide +kernel
theorem dL_law_229 : decode cL_law 229 = .ok (.iload_n 3, 1) := by decide +kernel
theorem dL_law_230 : decode cL_law 230 = .ok (.iconst 1, 1) := by decide +kernel
theorem dL_law_231 : decode cL_law 231 = .ok (.iadd, 1) := by decide +kernel
theorem dL_law_232 : decode cL_law 232 = .ok (.iaload, 1) := by decide +kernel
theorem dL_law_233 : decode cL_law 233 = .ok (.aload_n 0, 1) := by decide +kernel
theorem dL_law_234 : decode cL_law 234 = .ok (.iload_n 3, 1) := by decide +kernel
theorem dL_law_235 : decode cL_law 235 = .ok (.iconst 2, 1) := by decide +kernel
theorem dL_law_236 : decode cL_law 236 = .ok (.iadd, 1) := by decide +kernel
theorem dL_law_237 : decode cL_law 237 = .ok (.iaload, 1) := by decide +kernel
theorem dL_law_238 : decode cL_law 238 = .ok (.invokevirtual 31, 3) := by decide +kernel
theorem dL_law_241 : decode cL_law 241 = .ok (.if_icmp .eq 711, 3) := by decide +kernel
theorem dL_law_244 : decode cL_law 244 = .ok (.iconst 0, 1) := by decide +kernel
theorem dL_law_245 : decode cL_law 245 = .ok (.ireturn, 1) := by decide +kernel
theorem dL_law_246 : decode cL_law 246 = .ok (.aload_n 1, 1) := by decide +kernel
theorem dL_law_247 : decode cL_law 247 = .ok (.aload_n 0, 1) := by decide +kernel
theorem dL_law_248 : decode cL_law 248 = .ok (.iload_n 3, 1) := by decide +kernel
theorem dL_law_249 : decode cL_law 249 = .ok (.iconst 1, 1) := by decide +kernel
theorem dL_law_250 : decode cL_law 250 = .ok (.iadd, 1) := by decide +kernel
theorem dL_law_251 : decode cL_law 251 = .ok (.iaload, 1) := by decide +kernel
theorem dL_law_252 : decode cL_law 252 = .ok (.aload_n 0, 1) := by decide +kernel
theorem dL_law_253 : decode cL_law 253 = .ok (.iload_n 3, 1) := by decide +kernel
theorem dL_law_254 : decode cL_law 254 = .ok (.iconst 2, 1) := by decide +kernel
theorem dL_law_255 : decode cL_law 255 = .ok (.iadd, 1) := by decide +kernel
theorem dL_law_256 : decode cL_law 256 = .ok (.iaload, 1) := by decide +kernel
theorem dL_law_257 : decode cL_law 257 = .ok (.invokevirtual 32, 3) := by decide +kernel
theorem dL_law_260 : decode cL_law 260 = .ok (.aload_n 2, 1) := by decide +kernel
theorem dL_law_261 : decode cL_law 261 = .ok (.aload_n 0, 1) := by decide +kernel
theorem dL_law_262 : decode cL_law 262 = .ok (.iload_n 3, 1) := by decide +kernel
theorem dL_law_263 : decode cL_law 263 = .ok (.iconst 1, 1) := by decide +kernel
theorem dL_law_264 : decode cL_law 264 = .ok (.iadd, 1) := by decide +kernel
theorem dL_law_265 : decode cL_law 265 = .ok (.iaload, 1) := by decide +kernel
theorem dL_law_266 : decode cL_law 266 = .ok (.aload_n 0, 1) := by decide +kernel
theorem dL_law_267 : decode cL_law 267 = .ok (.iload_n 3, 1) := by decide +kernel
theorem dL_law_268 : decode cL_law 268 = .ok (.iconst 2, 1) := by decide +kernel
theorem dL_law_269 : decode cL_law 269 = .ok (.iadd, 1) := by decide +kernel
theorem dL_law_270 : decode cL_law 270 = .ok (.iaload, 1) := by decide +kernel
theorem dL_law_271 : decode cL_law 271 = .ok (.invokevirtual 35, 3) := by decide +kernel
theorem dL_law_274 : decode cL_law 274 = .ok (.if_icmp .eq 678, 3) := by decide +kernel
theorem dL_law_277 : decode cL_law 277 = .ok (.iconst 0, 1) := by decide +kernel
theorem dL_law_278 : decode cL_law 278 = .ok (.ireturn, 1) := by decide +kernel
theorem dL_law_279 : decode cL_law 279 = .ok (.aload_n 1, 1) := by decide +kernel
theorem dL_law_280 : decode cL_law 280 = .ok (.aload_n 0, 1) := by decide +kernel
theorem dL_law_281 : decode cL_law 281 = .ok (.iload_n 3, 1) := by decide +kernel
theorem dL_law_282 : decode cL_law 282 = .ok (.iconst 1, 1) := by decide +kernel
theorem dL_law_283 : decode cL_law 283 = .ok (.iadd, 1) := by decide +kernel
theorem dL_law_284 : decode cL_law 284 = .ok (.iaload, 1) := by decide +kernel
theorem dL_law_285 : decode cL_law 285 = .ok (.aload_n 0, 1) := by decide +kernel
theorem dL_law_286 : decode cL_law 286 = .ok (.iload_n 3, 1) := by decide +kernel
theorem dL_law_287 : decode cL_law 287 = .ok (.iconst 2, 1) := by decide +kernel
theorem dL_law_288 : decode cL_law 288 = .ok (.iadd, 1) := by decide +kernel
theorem dL_law_289 : decode cL_law 289 = .ok (.iaload, 1) := by decide +kernel
theorem dL_law_290 : decode cL_law 290 = .ok (.invokevirtual 36, 3) := by decide +kernel
theorem dL_law_293 : decode cL_law 293 = .ok (.aload_n 2, 1) := by decide +kernel
theorem dL_law_294 : decode cL_law 294 = .ok (.aload_n 0, 1) := by decide +kernel
theorem dL_law_295 : decode cL_law 295 = .ok (.iload_n 3, 1) := by decide +kernel
theorem dL_law_296 : decode cL_law 296 = .ok (.iconst 1, 1) := by decide +kernel
theorem dL_law_297 : decode cL_law 297 = .ok (.iadd, 1) := by decide +kernel
theorem dL_law_298 : decode cL_law 298 = .ok (.iaload, 1) := by decide +kernel
theorem dL_law_299 : decode cL_law 299 = .ok (.aload_n 0, 1) := by decide +kernel
theorem dL_law_300 : decode cL_law 300 = .ok (.iload_n 3, 1) := by decide +kernel
theorem dL_law_301 : decode cL_law 301 = .ok (.iconst 2, 1) := by decide +kernel
theorem dL_law_302 : decode cL_law 302 = .ok (.iadd, 1) := by decide +kernel
theorem dL_law_303 : decode cL_law 303 = .ok (.iaload, 1) := by decide +kernel
theorem dL_law_304 : decode cL_law 304 = .ok (.invokevirtual 39, 3) := by decide +kernel
theorem dL_law_307 : decode cL_law 307 = .ok (.if_icmp .eq 645, 3) := by decide +kernel
theorem dL_law_310 : decode cL_law 310 = .ok (.iconst 0, 1) := by decide +kernel
theorem dL_law_311 : decode cL_law 311 = .ok (.ireturn, 1) := by decide +kernel
theorem dL_law_312 : decode cL_law 312 = .ok (.aload_n 1, 1) := by decide +kernel
theorem dL_law_313 : decode cL_law 313 = .ok (.aload_n 0, 1) := by decide +kernel
theorem dL_law_314 : decode cL_law 314 = .ok (.iload_n 3, 1) := by decide +kernel
theorem dL_law_315 : decode cL_law 315 = .ok (.iconst 1, 1) := by decide +kernel
theorem dL_law_316 : decode cL_law 316 = .ok (.iadd, 1) := by decide +kernel
theorem dL_law_317 : decode cL_law 317 = .ok (.iaload, 1) := by decide +kernel
theorem dL_law_318 : decode cL_law 318 = .ok (.aload_n 0, 1) := by decide +kernel
theorem dL_law_319 : decode cL_law 319 = .ok (.iload_n 3, 1) := by decide +kernel
theorem dL_law_320 : decode cL_law 320 = .ok (.iconst 2, 1) := by decide +kernel
theorem dL_law_321 : decode cL_law 321 = .ok (.iadd, 1) := by decide +kernel
theorem dL_law_322 : decode cL_law 322 = .ok (.iaload, 1) := by decide +kernel
theorem dL_law_323 : decode cL_law 323 = .ok (.invokevirtual 40, 3) := by decide +kernel
theorem dL_law_326 : decode cL_law 326 = .ok (.aload_n 2, 1) := by decide +kernel
theorem dL_law_327 : decode cL_law 327 = .ok (.aload_n 0, 1) := by decide +kernel
theorem dL_law_328 : decode cL_law 328 = .ok (.iload_n 3, 1) := by decide +kernel
theorem dL_law_329 : decode cL_law 329 = .ok (.iconst 1, 1) := by decide +kernel
theorem dL_law_330 : decode cL_law 330 = .ok (.iadd, 1) := by decide +kernel
theorem dL_law_331 : decode cL_law 331 = .ok (.iaload, 1) := by decide +kernel
theorem dL_law_332 : decode cL_law 332 = .ok (.aload_n 0, 1) := by decide +kernel
theorem dL_law_333 : decode cL_law 333 = .ok (.iload_n 3, 1) := by decide +kernel
theorem dL_law_334 : decode cL_law 334 = .ok (.iconst 2, 1) := by decide +kernel
theorem dL_law_335 : decode cL_law 335 = .ok (.iadd, 1) := by decide +kernel
theorem dL_law_336 : decode cL_law 336 = .ok (.iaload, 1) := by decide +kernel
theorem dL_law_337 : decode cL_law 337 = .ok (.invokevirtual 43, 3) := by decide +kernel
theorem dL_law_340 : decode cL_law 340 = .ok (.if_icmp .eq 612, 3) := by decide +kernel
theorem dL_law_343 : decode cL_law 343 = .ok (.iconst 0, 1) := by decide +kernel
theorem dL_law_344 : decode cL_law 344 = .ok (.ireturn, 1) := by decide +kernel
theorem dL_law_345 : decode cL_law 345 = .ok (.aload_n 1, 1) := by decide +kernel
theorem dL_law_346 : decode cL_law 346 = .ok (.aload_n 0, 1) := by decide +kernel
theorem dL_law_347 : decode cL_law 347 = .ok (.iload_n 3, 1) := by decide +kernel
theorem dL_law_348 : decode cL_law 348 = .ok (.iconst 1, 1) := by decide +kernel
theorem dL_law_349 : decode cL_law 349 = .ok (.iadd, 1) := by decide +kernel
theorem dL_law_350 : decode cL_law 350 = .ok (.iaload, 1) := by decide +kernel
theorem dL_law_351 : decode cL_law 351 = .ok (.aload_n 0, 1) := by decide +kernel
theorem dL_law_352 : decode cL_law 352 = .ok (.iload_n 3, 1) := by decide +kernel
theorem dL_law_353 : decode cL_law 353 = .ok (.iconst 2, 1) := by decide +kernel
theorem dL_law_354 : decode cL_law 354 = .ok (.iadd, 1) := by decide +kernel
theorem dL_law_355 : decode cL_law 355 = .ok (.iaload, 1) := by decide +kernel
theorem dL_law_356 : decode cL_law 356 = .ok (.invokevirtual 44, 3) := by decide +kernel
theorem dL_law_359 : decode cL_law 359 = .ok (.aload_n 2, 1) := by decide +kernel
theorem dL_law_360 : decode cL_law 360 = .ok (.aload_n 0, 1) := by decide +kernel
theorem dL_law_361 : decode cL_law 361 = .ok (.iload_n 3, 1) := by decide +kernel
theorem dL_law_362 : decode cL_law 362 = .ok (.iconst 1, 1) := by decide +kernel
theorem dL_law_363 : decode cL_law 363 = .ok (.iadd, 1) := by decide +kernel
theorem dL_law_364 : decode cL_law 364 = .ok (.iaload, 1) := by decide +kernel
theorem dL_law_365 : decode cL_law 365 = .ok (.aload_n 0, 1) := by decide +kernel
theorem dL_law_366 : decode cL_law 366 = .ok (.iload_n 3, 1) := by decide +kernel
theorem dL_law_367 : decode cL_law 367 = .ok (.iconst 2, 1) := by decide +kernel
theorem dL_law_368 : decode cL_law 368 = .ok (.iadd, 1) := by decide +kernel
theorem dL_law_369 : decode cL_law 369 = .ok (.iaload, 1) := by decide +kernel
theorem dL_law_370 : decode cL_law 370 = .ok (.invokevirtual 47, 3) := by decide +kernel
theorem dL_law_373 : decode cL_law 373 = .ok (.if_icmp .eq 579, 3) := by decide +kernel
theorem dL_law_376 : decode cL_law 376 = .ok (.iconst 0, 1) := by decide +kernel
theorem dL_law_377 : decode cL_law 377 = .ok (.ireturn, 1) := by decide +kernel
theorem dL_law_378 : decode cL_law 378 = .ok (.aload_n 1, 1) := by decide +kernel
theorem dL_law_379 : decode cL_law 379 = .ok (.aload_n 0, 1) := by decide +kernel
theorem dL_law_380 : decode cL_law 380 = .ok (.iload_n 3, 1) := by decide +kernel
theorem dL_law_381 : decode cL_law 381 = .ok (.iconst 1, 1) := by decide +kernel
theorem dL_law_382 : decode cL_law 382 = .ok (.iadd, 1) := by decide +kernel
theorem dL_law_383 : decode cL_law 383 = .ok (.iaload, 1) := by decide +kernel
theorem dL_law_384 : decode cL_law 384 = .ok (.invokevirtual 48, 3) := by decide +kernel
theorem dL_law_387 : decode cL_law 387 = .ok (.aload_n 2, 1) := by decide +kernel
theorem dL_law_388 : decode cL_law 388 = .ok (.aload_n 0, 1) := by decide +kernel
theorem dL_law_389 : decode cL_law 389 = .ok (.iload_n 3, 1) := by decide +kernel
theorem dL_law_390 : decode cL_law 390 = .ok (.iconst 1, 1) := by decide +kernel
theorem dL_law_391 : decode cL_law 391 = .ok (.iadd, 1) := by decide +kernel
theorem dL_law_392 : decode cL_law 392 = .ok (.iaload, 1) := by decide +kernel
theorem dL_law_393 : decode cL_law 393 = .ok (.invokevirtual 51, 3) := by decide +kernel
theorem dL_law_396 : decode cL_law 396 = .ok (.if_icmp .eq 556, 3) := by decide +kernel
theorem dL_law_399 : decode cL_law 399 = .ok (.iconst 0, 1) := by decide +kernel
theorem dL_law_400 : decode cL_law 400 = .ok (.ireturn, 1) := by decide +kernel
theorem dL_law_401 : decode cL_law 401 = .ok (.aload_n 1, 1) := by decide +kernel
theorem dL_law_402 : decode cL_law 402 = .ok (.aload_n 0, 1) := by decide +kernel
theorem dL_law_403 : decode cL_law 403 = .ok (.iload_n 3, 1) := by decide +kernel
theorem dL_law_404 : decode cL_law 404 = .ok (.iconst 1, 1) := by decide +kernel
theorem dL_law_405 : decode cL_law 405 = .ok (.iadd, 1) := by decide +kernel
theorem dL_law_406 : decode cL_law 406 = .ok (.iaload, 1) := by decide +kernel
theorem dL_law_407 : decode cL_law 407 = .ok (.aload_n 0, 1) := by decide +kernel
theorem dL_law_408 : decode cL_law 408 = .ok (.iload_n 3, 1) := by decide +kernel
theorem dL_law_409 : decode cL_law 409 = .ok (.iconst 2, 1) := by decide +kernel
theorem dL_law_410 : decode cL_law 410 = .ok (.iadd, 1) := by decide +kernel
theorem dL_law_411 : decode cL_law 411 = .ok (.iaload, 1) := by decide +kernel
theorem dL_law_412 : decode cL_law 412 = .ok (.invokevirtual 52, 3) := by decide +kernel
theorem dL_law_415 : decode cL_law 415 = .ok (.aload_n 2, 1) := by decide +kernel
theorem dL_law_416 : decode cL_law 416 = .ok (.aload_n 0, 1) := by decide +kernel
theorem dL_law_417 : decode cL_law 417 = .ok (.iload_n 3, 1) := by decide +kernel
theorem dL_law_418 : decode cL_law 418 = .ok (.iconst 1, 1) := by decide +kernel
theorem dL_law_419 : decode cL_law 419 = .ok (.iadd, 1) := by decide +kernel
theorem dL_law_420 : decode cL_law 420 = .ok (.iaload, 1) := by decide +kernel
theorem dL_law_421 : decode cL_law 421 = .ok (.aload_n 0, 1) := by decide +kernel
theorem dL_law_422 : decode cL_law 422 = .ok (.iload_n 3, 1) := by decide +kernel
theorem dL_law_423 : decode cL_law 423 = .ok (.iconst 2, 1) := by decide +kernel
theorem dL_law_424 : decode cL_law 424 = .ok (.iadd, 1) := by decide +kernel
theorem dL_law_425 : decode cL_law 425 = .ok (.iaload, 1) := by decide +kernel
theorem dL_law_426 : decode cL_law 426 = .ok (.invokevirtual 55, 3) := by decide +kernel
theorem dL_law_429 : decode cL_law 429 = .ok (.if_icmp .eq 523, 3) := by decide +kernel
theorem dL_law_432 : decode cL_law 432 = .ok (.iconst 0, 1) := by decide +kernel
theorem dL_law_433 : decode cL_law 433 = .ok (.ireturn, 1) := by decide +kernel
theorem dL_law_434 : decode cL_law 434 = .ok (.aload_n 1, 1) := by decide +kernel
theorem dL_law_435 : decode cL_law 435 = .ok (.invokevirtual 56, 3) := by decide +kernel
theorem dL_law_438 : decode cL_law 438 = .ok (.aload_n 2, 1) := by decide +kernel
theorem dL_law_439 : decode cL_law 439 = .ok (.invokevirtual 59, 3) := by decide +kernel
theorem dL_law_442 : decode cL_law 442 = .ok (.if_icmp .eq 510, 3) := by decide +kernel
theorem dL_law_445 : decode cL_law 445 = .ok (.iconst 0, 1) := by decide +kernel
theorem dL_law_446 : decode cL_law 446 = .ok (.ireturn, 1) := by decide +kernel
theorem dL_law_447 : decode cL_law 447 = .ok (.aload_n 1, 1) := by decide +kernel
theorem dL_law_448 : decode cL_law 448 = .ok (.aload_n 0, 1) := by decide +kernel
theorem dL_law_449 : decode cL_law 449 = .ok (.iload_n 3, 1) := by decide +kernel
theorem dL_law_450 : decode cL_law 450 = .ok (.iconst 1, 1) := by decide +kernel
theorem dL_law_451 : decode cL_law 451 = .ok (.iadd, 1) := by decide +kernel
theorem dL_law_452 : decode cL_law 452 = .ok (.iaload, 1) := by decide +kernel
theorem dL_law_453 : decode cL_law 453 = .ok (.aload_n 0, 1) := by decide +kernel
theorem dL_law_454 : decode cL_law 454 = .ok (.iload_n 3, 1) := by decide +kernel
theorem dL_law_455 : decode cL_law 455 = .ok (.iconst 2, 1) := by decide +kernel
theorem dL_law_456 : decode cL_law 456 = .ok (.iadd, 1) := by decide +kernel
theorem dL_law_457 : decode cL_law 457 = .ok (.iaload, 1) := by decide +kernel
theorem dL_law_458 : decode cL_law 458 = .ok (.invokevirtual 60, 3) := by decide +kernel
theorem dL_law_461 : decode cL_law 461 = .ok (.aload_n 2, 1) := by decide +kernel
theorem dL_law_462 : decode cL_law 462 = .ok (.aload_n 0, 1) := by decide +kernel
theorem dL_law_463 : decode cL_law 463 = .ok (.iload_n 3, 1) := by decide +kernel
theorem dL_law_464 : decode cL_law 464 = .ok (.iconst 1, 1) := by decide +kernel
theorem dL_law_465 : decode cL_law 465 = .ok (.iadd, 1) := by decide +kernel
theorem dL_law_466 : decode cL_law 466 = .ok (.iaload, 1) := by decide +kernel
theorem dL_law_467 : decode cL_law 467 = .ok (.aload_n 0, 1) := by decide +kernel
theorem dL_law_468 : decode cL_law 468 = .ok (.iload_n 3, 1) := by decide +kernel
theorem dL_law_469 : decode cL_law 469 = .ok (.iconst 2, 1) := by decide +kernel
theorem dL_law_470 : decode cL_law 470 = .ok (.iadd, 1) := by decide +kernel
theorem dL_law_471 : decode cL_law 471 = .ok (.iaload, 1) := by decide +kernel
theorem dL_law_472 : decode cL_law 472 = .ok (.invokevirtual 63, 3) := by decide +kernel
theorem dL_law_475 : decode cL_law 475 = .ok (.if_icmp .eq 477, 3) := by decide +kernel
theorem dL_law_478 : decode cL_law 478 = .ok (.iconst 0, 1) := by decide +kernel
theorem dL_law_479 : decode cL_law 479 = .ok (.ireturn, 1) := by decide +kernel
theorem dL_law_480 : decode cL_law 480 = .ok (.aload_n 1, 1) := by decide +kernel
theorem dL_law_481 : decode cL_law 481 = .ok (.invokevirtual 64, 3) := by decide +kernel
theorem dL_law_484 : decode cL_law 484 = .ok (.aload_n 2, 1) := by decide +kernel
theorem dL_law_485 : decode cL_law 485 = .ok (.invokevirtual 67, 3) := by decide +kernel
theorem dL_law_488 : decode cL_law 488 = .ok (.if_icmp .eq 464, 3) := by decide +kernel
theorem dL_law_491 : decode cL_law 491 = .ok (.iconst 0, 1) := by decide +kernel
theorem dL_law_492 : decode cL_law 492 = .ok (.ireturn, 1) := by decide +kernel
theorem dL_law_493 : decode cL_law 493 = .ok (.aload_n 1, 1) := by decide +kernel
theorem dL_law_494 : decode cL_law 494 = .ok (.aload_n 0, 1) := by decide +kernel
theorem dL_law_495 : decode cL_law 495 = .ok (.iload_n 3, 1) := by decide +kernel
theorem dL_law_496 : decode cL_law 496 = .ok (.iconst 1, 1) := by decide +kernel
theorem dL_law_497 : decode cL_law 497 = .ok (.iadd, 1) := by decide +kernel
theorem dL_law_498 : decode cL_law 498 = .ok (.iaload, 1) := by decide +kernel
theorem dL_law_499 : decode cL_law 499 = .ok (.invokevirtual 68, 3) := by decide +kernel
theorem dL_law_502 : decode cL_law 502 = .ok (.aload_n 2, 1) := by decide +kernel
theorem dL_law_503 : decode cL_law 503 = .ok (.aload_n 0, 1) := by decide +kernel
theorem dL_law_504 : decode cL_law 504 = .ok (.iload_n 3, 1) := by decide +kernel
theorem dL_law_505 : decode cL_law 505 = .ok (.iconst 1, 1) := by decide +kernel
theorem dL_law_506 : decode cL_law 506 = .ok (.iadd, 1) := by decide +kernel
theorem dL_law_507 : decode cL_law 507 = .ok (.iaload, 1) := by decide +kernel
theorem dL_law_508 : decode cL_law 508 = .ok (.invokevirtual 71, 3) := by decide +kernel
theorem dL_law_511 : decode cL_law 511 = .ok (.if_icmp .eq 441, 3) := by decide +kernel
theorem dL_law_514 : decode cL_law 514 = .ok (.iconst 0, 1) := by decide +kernel
theorem dL_law_515 : decode cL_law 515 = .ok (.ireturn, 1) := by decide +kernel
theorem dL_law_516 : decode cL_law 516 = .ok (.aload_n 1, 1) := by decide +kernel
theorem dL_law_517 : decode cL_law 517 = .ok (.aload_n 0, 1) := by decide +kernel
theorem dL_law_518 : decode cL_law 518 = .ok (.iload_n 3, 1) := by decide +kernel
theorem dL_law_519 : decode cL_law 519 = .ok (.iconst 1, 1) := by decide +kernel
theorem dL_law_520 : decode cL_law 520 = .ok (.iadd, 1) := by decide +kernel
theorem dL_law_521 : decode cL_law 521 = .ok (.iaload, 1) := by decide +kernel
theorem dL_law_522 : decode cL_law 522 = .ok (.aload_n 0, 1) := by decide +kernel
theorem dL_law_523 : decode cL_law 523 = .ok (.iload_n 3, 1) := by decide +kernel
theorem dL_law_524 : decode cL_law 524 = .ok (.iconst 2, 1) := by decide +kernel
theorem dL_law_525 : decode cL_law 525 = .ok (.iadd, 1) := by decide +kernel
theorem dL_law_526 : decode cL_law 526 = .ok (.iaload, 1) := by decide +kernel
theorem dL_law_527 : decode cL_law 527 = .ok (.invokevirtual 72, 3) := by decide +kernel
theorem dL_law_530 : decode cL_law 530 = .ok (.aload_n 2, 1) := by decide +kernel
theorem dL_law_531 : decode cL_law 531 = .ok (.aload_n 0, 1) := by decide +kernel
theorem dL_law_532 : decode cL_law 532 = .ok (.iload_n 3, 1) := by decide +kernel
theorem dL_law_533 : decode cL_law 533 = .ok (.iconst 1, 1) := by decide +kernel
theorem dL_law_534 : decode cL_law 534 = .ok (.iadd, 1) := by decide +kernel
theorem dL_law_535 : decode cL_law 535 = .ok (.iaload, 1) := by decide +kernel
theorem dL_law_536 : decode cL_law 536 = .ok (.aload_n 0, 1) := by decide +kernel
theorem dL_law_537 : decode cL_law 537 = .ok (.iload_n 3, 1) := by decide +kernel
theorem dL_law_538 : decode cL_law 538 = .ok (.iconst 2, 1) := by decide +kernel
theorem dL_law_539 : decode cL_law 539 = .ok (.iadd, 1) := by decide +kernel
theorem dL_law_540 : decode cL_law 540 = .ok (.iaload, 1) := by decide +kernel
theorem dL_law_541 : decode cL_law 541 = .ok (.invokevirtual 75, 3) := by decide +kernel
theorem dL_law_544 : decode cL_law 544 = .ok (.if_icmp .eq 408, 3) := by decide +kernel
theorem dL_law_547 : decode cL_law 547 = .ok (.iconst 0, 1) := by decide +kernel
theorem dL_law_548 : decode cL_law 548 = .ok (.ireturn, 1) := by decide +kernel
theorem dL_law_549 : decode cL_law 549 = .ok (.aload_n 1, 1) := by decide +kernel
theorem dL_law_550 : decode cL_law 550 = .ok (.aload_n 0, 1) := by decide +kernel
theorem dL_law_551 : decode cL_law 551 = .ok (.iload_n 3, 1) := by decide +kernel
theorem dL_law_552 : decode cL_law 552 = .ok (.iconst 1, 1) := by decide +kernel
theorem dL_law_553 : decode cL_law 553 = .ok (.iadd, 1) := by decide +kernel
theorem dL_law_554 : decode cL_law 554 = .ok (.iaload, 1) := by decide +kernel
theorem dL_law_555 : decode cL_law 555 = .ok (.aload_n 0, 1) := by decide +kernel
theorem dL_law_556 : decode cL_law 556 = .ok (.iload_n 3, 1) := by decide +kernel
theorem dL_law_557 : decode cL_law 557 = .ok (.iconst 2, 1) := by decide +kernel
theorem dL_law_558 : decode cL_law 558 = .ok (.iadd, 1) := by decide +kernel
theorem dL_law_559 : decode cL_law 559 = .ok (.iaload, 1) := by decide +kernel
theorem dL_law_560 : decode cL_law 560 = .ok (.aload_n 0, 1) := by decide +kernel
theorem dL_law_561 : decode cL_law 561 = .ok (.iload_n 3, 1) := by decide +kernel
theorem dL_law_562 : decode cL_law 562 = .ok (.iconst 3, 1) := by decide +kernel
theorem dL_law_563 : decode cL_law 563 = .ok (.iadd, 1) := by decide +kernel
theorem dL_law_564 : decode cL_law 564 = .ok (.iaload, 1) := by decide +kernel
theorem dL_law_565 : decode cL_law 565 = .ok (.invokevirtual 76, 3) := by decide +kernel
theorem dL_law_568 : decode cL_law 568 = .ok (.aload_n 2, 1) := by decide +kernel
theorem dL_law_569 : decode cL_law 569 = .ok (.aload_n 0, 1) := by decide +kernel
theorem dL_law_570 : decode cL_law 570 = .ok (.iload_n 3, 1) := by decide +kernel
theorem dL_law_571 : decode cL_law 571 = .ok (.iconst 1, 1) := by decide +kernel
theorem dL_law_572 : decode cL_law 572 = .ok (.iadd, 1) := by decide +kernel
theorem dL_law_573 : decode cL_law 573 = .ok (.iaload, 1) := by decide +kernel
theorem dL_law_574 : decode cL_law 574 = .ok (.aload_n 0, 1) := by decide +kernel
theorem dL_law_575 : decode cL_law 575 = .ok (.iload_n 3, 1) := by decide +kernel
theorem dL_law_576 : decode cL_law 576 = .ok (.iconst 2, 1) := by decide +kernel
theorem dL_law_577 : decode cL_law 577 = .ok (.iadd, 1) := by decide +kernel
theorem dL_law_578 : decode cL_law 578 = .ok (.iaload, 1) := by decide +kernel
theorem dL_law_579 : decode cL_law 579 = .ok (.aload_n 0, 1) := by decide +kernel
theorem dL_law_580 : decode cL_law 580 = .ok (.iload_n 3, 1) := by decide +kernel
theorem dL_law_581 : decode cL_law 581 = .ok (.iconst 3, 1) := by decide +kernel
theorem dL_law_582 : decode cL_law 582 = .ok (.iadd, 1) := by decide +kernel
theorem dL_law_583 : decode cL_law 583 = .ok (.iaload, 1) := by decide +kernel
theorem dL_law_584 : decode cL_law 584 = .ok (.invokevirtual 80, 3) := by decide +kernel
theorem dL_law_587 : decode cL_law 587 = .ok (.if_icmp .eq 365, 3) := by decide +kernel
theorem dL_law_590 : decode cL_law 590 = .ok (.iconst 0, 1) := by decide +kernel
theorem dL_law_591 : decode cL_law 591 = .ok (.ireturn, 1) := by decide +kernel
theorem dL_law_592 : decode cL_law 592 = .ok (.aload_n 1, 1) := by decide +kernel
theorem dL_law_593 : decode cL_law 593 = .ok (.aload_n 0, 1) := by decide +kernel
theorem dL_law_594 : decode cL_law 594 = .ok (.iload_n 3, 1) := by decide +kernel
theorem dL_law_595 : decode cL_law 595 = .ok (.iconst 1, 1) := by decide +kernel
theorem dL_law_596 : decode cL_law 596 = .ok (.iadd, 1) := by decide +kernel
theorem dL_law_597 : decode cL_law 597 = .ok (.iaload, 1) := by decide +kernel
theorem dL_law_598 : decode cL_law 598 = .ok (.aload_n 0, 1) := by decide +kernel
theorem dL_law_599 : decode cL_law 599 = .ok (.iload_n 3, 1) := by decide +kernel
theorem dL_law_600 : decode cL_law 600 = .ok (.iconst 2, 1) := by decide +kernel
theorem dL_law_601 : decode cL_law 601 = .ok (.iadd, 1) := by decide +kernel
theorem dL_law_602 : decode cL_law 602 = .ok (.iaload, 1) := by decide +kernel
theorem dL_law_603 : decode cL_law 603 = .ok (.aload_n 0, 1) := by decide +kernel
theorem dL_law_604 : decode cL_law 604 = .ok (.iload_n 3, 1) := by decide +kernel
theorem dL_law_605 : decode cL_law 605 = .ok (.iconst 3, 1) := by decide +kernel
theorem dL_law_606 : decode cL_law 606 = .ok (.iadd, 1) := by decide +kernel
theorem dL_law_607 : decode cL_law 607 = .ok (.iaload, 1) := by decide +kernel
theorem dL_law_608 : decode cL_law 608 = .ok (.invokevirtual 81, 3) := by decide +kernel
theorem dL_law_611 : decode cL_law 611 = .ok (.aload_n 2, 1) := by decide +kernel
theorem dL_law_612 : decode cL_law 612 = .ok (.aload_n 0, 1) := by decide +kernel
theorem dL_law_613 : decode cL_law 613 = .ok (.iload_n 3, 1) := by decide +kernel
theorem dL_law_614 : decode cL_law 614 = .ok (.iconst 1, 1) := by decide +kernel
theorem dL_law_615 : decode cL_law 615 = .ok (.iadd, 1) := by decide +kernel
theorem dL_law_616 : decode cL_law 616 = .ok (.iaload, 1) := by decide +kernel
theorem dL_law_617 : decode cL_law 617 = .ok (.aload_n 0, 1) := by decide +kernel
theorem dL_law_618 : decode cL_law 618 = .ok (.iload_n 3, 1) := by decide +kernel
theorem dL_law_619 : decode cL_law 619 = .ok (.iconst 2, 1) := by decide +kernel
theorem dL_law_620 : decode cL_law 620 = .ok (.iadd, 1) := by decide +kernel
theorem dL_law_621 : decode cL_law 621 = .ok (.iaload, 1) := by decide +kernel
theorem dL_law_622 : decode cL_law 622 = .ok (.aload_n 0, 1) := by decide +kernel
theorem dL_law_623 : decode cL_law 623 = .ok (.iload_n 3, 1) := by decide +kernel
theorem dL_law_624 : decode cL_law 624 = .ok (.iconst 3, 1) := by decide +kernel
theorem dL_law_625 : decode cL_law 625 = .ok (.iadd, 1) := by decide +kernel
theorem dL_law_626 : decode cL_law 626 = .ok (.iaload, 1) := by decide +kernel
theorem dL_law_627 : decode cL_law 627 = .ok (.invokevirtual 84, 3) := by decide +kernel
theorem dL_law_630 : decode cL_law 630 = .ok (.if_icmp .eq 322, 3) := by decide +kernel
theorem dL_law_633 : decode cL_law 633 = .ok (.iconst 0, 1) := by decide +kernel
theorem dL_law_634 : decode cL_law 634 = .ok (.ireturn, 1) := by decide +kernel
theorem dL_law_635 : decode cL_law 635 = .ok (.aload_n 1, 1) := by decide +kernel
theorem dL_law_636 : decode cL_law 636 = .ok (.aload_n 0, 1) := by decide +kernel
theorem dL_law_637 : decode cL_law 637 = .ok (.iload_n 3, 1) := by decide +kernel
theorem dL_law_638 : decode cL_law 638 = .ok (.iconst 1, 1) := by decide +kernel
theorem dL_law_639 : decode cL_law 639 = .ok (.iadd, 1) := by decide +kernel
theorem dL_law_640 : decode cL_law 640 = .ok (.iaload, 1) := by decide +kernel
theorem dL_law_641 : decode cL_law 641 = .ok (.aload_n 0, 1) := by decide +kernel
theorem dL_law_642 : decode cL_law 642 = .ok (.iload_n 3, 1) := by decide +kernel
theorem dL_law_643 : decode cL_law 643 = .ok (.iconst 2, 1) := by decide +kernel
theorem dL_law_644 : decode cL_law 644 = .ok (.iadd, 1) := by decide +kernel
theorem dL_law_645 : decode cL_law 645 = .ok (.iaload, 1) := by decide +kernel
theorem dL_law_646 : decode cL_law 646 = .ok (.aload_n 0, 1) := by decide +kernel
theorem dL_law_647 : decode cL_law 647 = .ok (.iload_n 3, 1) := by decide +kernel
theorem dL_law_648 : decode cL_law 648 = .ok (.iconst 3, 1) := by decide +kernel
theorem dL_law_649 : decode cL_law 649 = .ok (.iadd, 1) := by decide +kernel
theorem dL_law_650 : decode cL_law 650 = .ok (.iaload, 1) := by decide +kernel
theorem dL_law_651 : decode cL_law 651 = .ok (.invokevirtual 85, 3) := by decide +kernel
theorem dL_law_654 : decode cL_law 654 = .ok (.aload_n 2, 1) := by decide +kernel
theorem dL_law_655 : decode cL_law 655 = .ok (.aload_n 0, 1) := by decide +kernel
theorem dL_law_656 : decode cL_law 656 = .ok (.iload_n 3, 1) := by decide +kernel
theorem dL_law_657 : decode cL_law 657 = .ok (.iconst 1, 1) := by decide +kernel
theorem dL_law_658 : decode cL_law 658 = .ok (.iadd, 1) := by decide +kernel
theorem dL_law_659 : decode cL_law 659 = .ok (.iaload, 1) := by decide +kernel
theorem dL_law_660 : decode cL_law 660 = .ok (.aload_n 0, 1) := by decide +kernel
theorem dL_law_661 : decode cL_law 661 = .ok (.iload_n 3, 1) := by decide +kernel
theorem dL_law_662 : decode cL_law 662 = .ok (.iconst 2, 1) := by decide +kernel
theorem dL_law_663 : decode cL_law 663 = .ok (.iadd, 1) := by decide +kernel
theorem dL_law_664 : decode cL_law 664 = .ok (.iaload, 1) := by decide +kernel
theorem dL_law_665 : decode cL_law 665 = .ok (.aload_n 0, 1) := by decide +kernel
theorem dL_law_666 : decode cL_law 666 = .ok (.iload_n 3, 1) := by decide +kernel
theorem dL_law_667 : decode cL_law 667 = .ok (.iconst 3, 1) := by decide +kernel
theorem dL_law_668 : decode cL_law 668 = .ok (.iadd, 1) := by decide +kernel
theorem dL_law_669 : decode cL_law 669 = .ok (.iaload, 1) := by decide +kernel
theorem dL_law_670 : decode cL_law 670 = .ok (.invokevirtual 88, 3) := by decide +kernel
theorem dL_law_673 : decode cL_law 673 = .ok (.if_icmp .eq 279, 3) := by decide +kernel
theorem dL_law_676 : decode cL_law 676 = .ok (.iconst 0, 1) := by decide +kernel
theorem dL_law_677 : decode cL_law 677 = .ok (.ireturn, 1) := by decide +kernel
theorem dL_law_678 : decode cL_law 678 = .ok (.aload_n 1, 1) := by decide +kernel
theorem dL_law_679 : decode cL_law 679 = .ok (.aload_n 0, 1) := by decide +kernel
theorem dL_law_680 : decode cL_law 680 = .ok (.iload_n 3, 1) := by decide +kernel
theorem dL_law_681 : decode cL_law 681 = .ok (.iconst 1, 1) := by decide +kernel
theorem dL_law_682 : decode cL_law 682 = .ok (.iadd, 1) := by decide +kernel
theorem dL_law_683 : decode cL_law 683 = .ok (.iaload, 1) := by decide +kernel
theorem dL_law_684 : decode cL_law 684 = .ok (.aload_n 0, 1) := by decide +kernel
theorem dL_law_685 : decode cL_law 685 = .ok (.iload_n 3, 1) := by decide +kernel
theorem dL_law_686 : decode cL_law 686 = .ok (.iconst 2, 1) := by decide +kernel
theorem dL_law_687 : decode cL_law 687 = .ok (.iadd, 1) := by decide +kernel
theorem dL_law_688 : decode cL_law 688 = .ok (.iaload, 1) := by decide +kernel
theorem dL_law_689 : decode cL_law 689 = .ok (.invokevirtual 89, 3) := by decide +kernel
theorem dL_law_692 : decode cL_law 692 = .ok (.aload_n 2, 1) := by decide +kernel
theorem dL_law_693 : decode cL_law 693 = .ok (.aload_n 0, 1) := by decide +kernel
theorem dL_law_694 : decode cL_law 694 = .ok (.iload_n 3, 1) := by decide +kernel
theorem dL_law_695 : decode cL_law 695 = .ok (.iconst 1, 1) := by decide +kernel
theorem dL_law_696 : decode cL_law 696 = .ok (.iadd, 1) := by decide +kernel
theorem dL_law_697 : decode cL_law 697 = .ok (.iaload, 1) := by decide +kernel
theorem dL_law_698 : decode cL_law 698 = .ok (.aload_n 0, 1) := by decide +kernel
theorem dL_law_699 : decode cL_law 699 = .ok (.iload_n 3, 1) := by decide +kernel
theorem dL_law_700 : decode cL_law 700 = .ok (.iconst 2, 1) := by decide +kernel
theorem dL_law_701 : decode cL_law 701 = .ok (.iadd, 1) := by decide +kernel
theorem dL_law_702 : decode cL_law 702 = .ok (.iaload, 1) := by decide +kernel
theorem dL_law_703 : decode cL_law 703 = .ok (.invokevirtual 92, 3) := by decide +kernel
theorem dL_law_706 : decode cL_law 706 = .ok (.if_icmp .eq 246, 3) := by decide +kernel
theorem dL_law_709 : decode cL_law 709 = .ok (.iconst 0, 1) := by decide +kernel
theorem dL_law_710 : decode cL_law 710 = .ok (.ireturn, 1) := by decide +kernel
theorem dL_law_711 : decode cL_law 711 = .ok (.aload_n 1, 1) := by decide +kernel
theorem dL_law_712 : decode cL_law 712 = .ok (.aload_n 0, 1) := by decide +kernel
theorem dL_law_713 : decode cL_law 713 = .ok (.iload_n 3, 1) := by decide +kernel
theorem dL_law_714 : decode cL_law 714 = .ok (.iconst 1, 1) := by decide +kernel
theorem dL_law_715 : decode cL_law 715 = .ok (.iadd, 1) := by decide +kernel
theorem dL_law_716 : decode cL_law 716 = .ok (.iaload, 1) := by decide +kernel
theorem dL_law_717 : decode cL_law 717 = .ok (.aload_n 0, 1) := by decide +kernel
theorem dL_law_718 : decode cL_law 718 = .ok (.iload_n 3, 1) := by decide +kernel
theorem dL_law_719 : decode cL_law 719 = .ok (.iconst 2, 1) := by decide +kernel
theorem dL_law_720 : decode cL_law 720 = .ok (.iadd, 1) := by decide +kernel
theorem dL_law_721 : decode cL_law 721 = .ok (.iaload, 1) := by decide +kernel
theorem dL_law_722 : decode cL_law 722 = .ok (.aload_n 0, 1) := by decide +kernel
theorem dL_law_723 : decode cL_law 723 = .ok (.iload_n 3, 1) := by decide +kernel
theorem dL_law_724 : decode cL_law 724 = .ok (.iconst 3, 1) := by decide +kernel
theorem dL_law_725 : decode cL_law 725 = .ok (.iadd, 1) := by decide +kernel
theorem dL_law_726 : decode cL_law 726 = .ok (.iaload, 1) := by decide +kernel
theorem dL_law_727 : decode cL_law 727 = .ok (.aload_n 0, 1) := by decide +kernel
theorem dL_law_728 : decode cL_law 728 = .ok (.iload_n 3, 1) := by decide +kernel
theorem dL_law_729 : decode cL_law 729 = .ok (.iconst 4, 1) := by decide +kernel
theorem dL_law_730 : decode cL_law 730 = .ok (.iadd, 1) := by decide +kernel
theorem dL_law_731 : decode cL_law 731 = .ok (.iaload, 1) := by decide +kernel
theorem dL_law_732 : decode cL_law 732 = .ok (.invokevirtual 93, 3) := by decide +kernel
theorem dL_law_735 : decode cL_law 735 = .ok (.aload_n 2, 1) := by decide +kernel
theorem dL_law_736 : decode cL_law 736 = .ok (.aload_n 0, 1) := by decide +kernel
theorem dL_law_737 : decode cL_law 737 = .ok (.iload_n 3, 1) := by decide +kernel
theorem dL_law_738 : decode cL_law 738 = .ok (.iconst 1, 1) := by decide +kernel
theorem dL_law_739 : decode cL_law 739 = .ok (.iadd, 1) := by decide +kernel
theorem dL_law_740 : decode cL_law 740 = .ok (.iaload, 1) := by decide +kernel
theorem dL_law_741 : decode cL_law 741 = .ok (.aload_n 0, 1) := by decide +kernel
theorem dL_law_742 : decode cL_law 742 = .ok (.iload_n 3, 1) := by decide +kernel
theorem dL_law_743 : decode cL_law 743 = .ok (.iconst 2, 1) := by decide +kernel
theorem dL_law_744 : decode cL_law 744 = .ok (.iadd, 1) := by decide +kernel
theorem dL_law_745 : decode cL_law 745 = .ok (.iaload, 1) := by decide +kernel
theorem dL_law_746 : decode cL_law 746 = .ok (.aload_n 0, 1) := by decide +kernel
theorem dL_law_747 : decode cL_law 747 = .ok (.iload_n 3, 1) := by decide +kernel
theorem dL_law_748 : decode cL_law 748 = .ok (.iconst 3, 1) := by decide +kernel
theorem dL_law_749 : decode cL_law 749 = .ok (.iadd, 1) := by decide +kernel
theorem dL_law_750 : decode cL_law 750 = .ok (.iaload, 1) := by decide +kernel
theorem dL_law_751 : decode cL_law 751 = .ok (.aload_n 0, 1) := by decide +kernel
theorem dL_law_752 : decode cL_law 752 = .ok (.iload_n 3, 1) := by decide +kernel
theorem dL_law_753 : decode cL_law 753 = .ok (.iconst 4, 1) := by decide +kernel
theorem dL_law_754 : decode cL_law 754 = .ok (.iadd, 1) := by decide +kernel
theorem dL_law_755 : decode cL_law 755 = .ok (.iaload, 1) := by decide +kernel
theorem dL_law_756 : decode cL_law 756 = .ok (.invokevirtual 97, 3) := by decide +kernel
theorem dL_law_759 : decode cL_law 759 = .ok (.if_icmp .eq 193, 3) := by decide +kernel
theorem dL_law_762 : decode cL_law 762 = .ok (.iconst 0, 1) := by decide +kernel
theorem dL_law_763 : decode cL_law 763 = .ok (.ireturn, 1) := by decide +kernel
theorem dL_law_764 : decode cL_law 764 = .ok (.aload_n 1, 1) := by decide +kernel
theorem dL_law_765 : decode cL_law 765 = .ok (.aload_n 0, 1) := by decide +kernel
theorem dL_law_766 : decode cL_law 766 = .ok (.iload_n 3, 1) := by decide +kernel
theorem dL_law_767 : decode cL_law 767 = .ok (.iconst 1, 1) := by decide +kernel
theorem dL_law_768 : decode cL_law 768 = .ok (.iadd, 1) := by decide +kernel
theorem dL_law_769 : decode cL_law 769 = .ok (.iaload, 1) := by decide +kernel
theorem dL_law_770 : decode cL_law 770 = .ok (.aload_n 0, 1) := by decide +kernel
theorem dL_law_771 : decode cL_law 771 = .ok (.iload_n 3, 1) := by decide +kernel
theorem dL_law_772 : decode cL_law 772 = .ok (.iconst 2, 1) := by decide +kernel
theorem dL_law_773 : decode cL_law 773 = .ok (.iadd, 1) := by decide +kernel
theorem dL_law_774 : decode cL_law 774 = .ok (.iaload, 1) := by decide +kernel
theorem dL_law_775 : decode cL_law 775 = .ok (.invokevirtual 98, 3) := by decide +kernel
theorem dL_law_778 : decode cL_law 778 = .ok (.aload_n 2, 1) := by decide +kernel
theorem dL_law_779 : decode cL_law 779 = .ok (.aload_n 0, 1) := by decide +kernel
theorem dL_law_780 : decode cL_law 780 = .ok (.iload_n 3, 1) := by decide +kernel
theorem dL_law_781 : decode cL_law 781 = .ok (.iconst 1, 1) := by decide +kernel
theorem dL_law_782 : decode cL_law 782 = .ok (.iadd, 1) := by decide +kernel
theorem dL_law_783 : decode cL_law 783 = .ok (.iaload, 1) := by decide +kernel
theorem dL_law_784 : decode cL_law 784 = .ok (.aload_n 0, 1) := by decide +kernel
theorem dL_law_785 : decode cL_law 785 = .ok (.iload_n 3, 1) := by decide +kernel
theorem dL_law_786 : decode cL_law 786 = .ok (.iconst 2, 1) := by decide +kernel
theorem dL_law_787 : decode cL_law 787 = .ok (.iadd, 1) := by decide +kernel
theorem dL_law_788 : decode cL_law 788 = .ok (.iaload, 1) := by decide +kernel
theorem dL_law_789 : decode cL_law 789 = .ok (.invokevirtual 101, 3) := by decide +kernel
theorem dL_law_792 : decode cL_law 792 = .ok (.if_icmp .eq 160, 3) := by decide +kernel
theorem dL_law_795 : decode cL_law 795 = .ok (.iconst 0, 1) := by decide +kernel
theorem dL_law_796 : decode cL_law 796 = .ok (.ireturn, 1) := by decide +kernel
theorem dL_law_797 : decode cL_law 797 = .ok (.aload_n 1, 1) := by decide +kernel
theorem dL_law_798 : decode cL_law 798 = .ok (.invokevirtual 102, 3) := by decide +kernel
theorem dL_law_801 : decode cL_law 801 = .ok (.aload_n 2, 1) := by decide +kernel
theorem dL_law_802 : decode cL_law 802 = .ok (.invokevirtual 105, 3) := by decide +kernel
theorem dL_law_805 : decode cL_law 805 = .ok (.if_icmp .eq 147, 3) := by decide +kernel
theorem dL_law_808 : decode cL_law 808 = .ok (.iconst 0, 1) := by decide +kernel
theorem dL_law_809 : decode cL_law 809 = .ok (.ireturn, 1) := by decide +kernel
theorem dL_law_810 : decode cL_law 810 = .ok (.aload_n 1, 1) := by decide +kernel
theorem dL_law_811 : decode cL_law 811 = .ok (.invokevirtual 106, 3) := by decide +kernel
theorem dL_law_814 : decode cL_law 814 = .ok (.aload_n 2, 1) := by decide +kernel
theorem dL_law_815 : decode cL_law 815 = .ok (.invokevirtual 109, 3) := by decide +kernel
theorem dL_law_818 : decode cL_law 818 = .ok (.if_icmp .eq 134, 3) := by decide +kernel
theorem dL_law_821 : decode cL_law 821 = .ok (.iconst 0, 1) := by decide +kernel
theorem dL_law_822 : decode cL_law 822 = .ok (.ireturn, 1) := by decide +kernel
theorem dL_law_823 : decode cL_law 823 = .ok (.aload_n 1, 1) := by decide +kernel
theorem dL_law_824 : decode cL_law 824 = .ok (.invokevirtual 110, 3) := by decide +kernel
theorem dL_law_827 : decode cL_law 827 = .ok (.aload_n 2, 1) := by decide +kernel
theorem dL_law_828 : decode cL_law 828 = .ok (.invokevirtual 113, 3) := by decide +kernel
theorem dL_law_831 : decode cL_law 831 = .ok (.if_icmp .eq 121, 3) := by decide +kernel
theorem dL_law_834 : decode cL_law 834 = .ok (.iconst 0, 1) := by decide +kernel
theorem dL_law_835 : decode cL_law 835 = .ok (.ireturn, 1) := by decide +kernel
theorem dL_law_836 : decode cL_law 836 = .ok (.aload_n 1, 1) := by decide +kernel
theorem dL_law_837 : decode cL_law 837 = .ok (.aload_n 0, 1) := by decide +kernel
theorem dL_law_838 : decode cL_law 838 = .ok (.iload_n 3, 1) := by decide +kernel
theorem dL_law_839 : decode cL_law 839 = .ok (.iconst 1, 1) := by decide +kernel
theorem dL_law_840 : decode cL_law 840 = .ok (.iadd, 1) := by decide +kernel
theorem dL_law_841 : decode cL_law 841 = .ok (.iaload, 1) := by decide +kernel
theorem dL_law_842 : decode cL_law 842 = .ok (.aload_n 0, 1) := by decide +kernel
theorem dL_law_843 : decode cL_law 843 = .ok (.iload_n 3, 1) := by decide +kernel
theorem dL_law_844 : decode cL_law 844 = .ok (.iconst 2, 1) := by decide +kernel
theorem dL_law_845 : decode cL_law 845 = .ok (.iadd, 1) := by decide +kernel
theorem dL_law_846 : decode cL_law 846 = .ok (.iaload, 1) := by decide +kernel
theorem dL_law_847 : decode cL_law 847 = .ok (.invokevirtual 114, 3) := by decide +kernel
theorem dL_law_850 : decode cL_law 850 = .ok (.aload_n 2, 1) := by decide +kernel
theorem dL_law_851 : decode cL_law 851 = .ok (.aload_n 0, 1) := by decide +kernel
theorem dL_law_852 : decode cL_law 852 = .ok (.iload_n 3, 1) := by decide +kernel
theorem dL_law_853 : decode cL_law 853 = .ok (.iconst 1, 1) := by decide +kernel
theorem dL_law_854 : decode cL_law 854 = .ok (.iadd, 1) := by decide +kernel
theorem dL_law_855 : decode cL_law 855 = .ok (.iaload, 1) := by decide +kernel
theorem dL_law_856 : decode cL_law 856 = .ok (.aload_n 0, 1) := by decide +kernel
theorem dL_law_857 : decode cL_law 857 = .ok (.iload_n 3, 1) := by decide +kernel
theorem dL_law_858 : decode cL_law 858 = .ok (.iconst 2, 1) := by decide +kernel
theorem dL_law_859 : decode cL_law 859 = .ok (.iadd, 1) := by decide +kernel
theorem dL_law_860 : decode cL_law 860 = .ok (.iaload, 1) := by decide +kernel
theorem dL_law_861 : decode cL_law 861 = .ok (.invokevirtual 117, 3) := by decide +kernel
theorem dL_law_864 : decode cL_law 864 = .ok (.if_icmp .eq 88, 3) := by decide +kernel
theorem dL_law_867 : decode cL_law 867 = .ok (.iconst 0, 1) := by decide +kernel
theorem dL_law_868 : decode cL_law 868 = .ok (.ireturn, 1) := by decide +kernel
theorem dL_law_869 : decode cL_law 869 = .ok (.aload_n 1, 1) := by decide +kernel
theorem dL_law_870 : decode cL_law 870 = .ok (.aload_n 0, 1) := by decide +kernel
theorem dL_law_871 : decode cL_law 871 = .ok (.iload_n 3, 1) := by decide +kernel
theorem dL_law_872 : decode cL_law 872 = .ok (.iconst 1, 1) := by decide +kernel
theorem dL_law_873 : decode cL_law 873 = .ok (.iadd, 1) := by decide +kernel
theorem dL_law_874 : decode cL_law 874 = .ok (.iaload, 1) := by decide +kernel
theorem dL_law_875 : decode cL_law 875 = .ok (.invokevirtual 118, 3) := by decide +kernel
theorem dL_law_878 : decode cL_law 878 = .ok (.aload_n 2, 1) := by decide +kernel
theorem dL_law_879 : decode cL_law 879 = .ok (.aload_n 0, 1) := by decide +kernel
theorem dL_law_880 : decode cL_law 880 = .ok (.iload_n 3, 1) := by decide +kernel
theorem dL_law_881 : decode cL_law 881 = .ok (.iconst 1, 1) := by decide +kernel
theorem dL_law_882 : decode cL_law 882 = .ok (.iadd, 1) := by decide +kernel
theorem dL_law_883 : decode cL_law 883 = .ok (.iaload, 1) := by decide +kernel
theorem dL_law_884 : decode cL_law 884 = .ok (.invokevirtual 121, 3) := by decide +kernel
theorem dL_law_887 : decode cL_law 887 = .ok (.if_icmp .eq 65, 3) := by decide +kernel
theorem dL_law_890 : decode cL_law 890 = .ok (.iconst 0, 1) := by decide +kernel
theorem dL_law_891 : decode cL_law 891 = .ok (.ireturn, 1) := by decide +kernel
theorem dL_law_892 : decode cL_law 892 = .ok (.aload_n 1, 1) := by decide +kernel
theorem dL_law_893 : decode cL_law 893 = .ok (.aload_n 0, 1) := by decide +kernel
theorem dL_law_894 : decode cL_law 894 = .ok (.iload_n 3, 1) := by decide +kernel
theorem dL_law_895 : decode cL_law 895 = .ok (.iconst 1, 1) := by decide +kernel
theorem dL_law_896 : decode cL_law 896 = .ok (.iadd, 1) := by decide +kernel
theorem dL_law_897 : decode cL_law 897 = .ok (.iaload, 1) := by decide +kernel
theorem dL_law_898 : decode cL_law 898 = .ok (.invokevirtual 122, 3) := by decide +kernel
theorem dL_law_901 : decode cL_law 901 = .ok (.aload_n 2, 1) := by decide +kernel
theorem dL_law_902 : decode cL_law 902 = .ok (.aload_n 0, 1) := by decide +kernel
theorem dL_law_903 : decode cL_law 903 = .ok (.iload_n 3, 1) := by decide +kernel
theorem dL_law_904 : decode cL_law 904 = .ok (.iconst 1, 1) := by decide +kernel
theorem dL_law_905 : decode cL_law 905 = .ok (.iadd, 1) := by decide +kernel
theorem dL_law_906 : decode cL_law 906 = .ok (.iaload, 1) := by decide +kernel
theorem dL_law_907 : decode cL_law 907 = .ok (.invokevirtual 125, 3) := by decide +kernel
theorem dL_law_910 : decode cL_law 910 = .ok (.if_icmp .eq 42, 3) := by decide +kernel
theorem dL_law_913 : decode cL_law 913 = .ok (.iconst 0, 1) := by decide +kernel
theorem dL_law_914 : decode cL_law 914 = .ok (.ireturn, 1) := by decide +kernel
theorem dL_law_915 : decode cL_law 915 = .ok (.aload_n 1, 1) := by decide +kernel
theorem dL_law_916 : decode cL_law 916 = .ok (.aload_n 0, 1) := by decide +kernel
theorem dL_law_917 : decode cL_law 917 = .ok (.iload_n 3, 1) := by decide +kernel
theorem dL_law_918 : decode cL_law 918 = .ok (.iconst 1, 1) := by decide +kernel
theorem dL_law_919 : decode cL_law 919 = .ok (.iadd, 1) := by decide +kernel
theorem dL_law_920 : decode cL_law 920 = .ok (.iaload, 1) := by decide +kernel
theorem dL_law_921 : decode cL_law 921 = .ok (.invokevirtual 126, 3) := by decide +kernel
theorem dL_law_924 : decode cL_law 924 = .ok (.aload_n 2, 1) := by decide +kernel
theorem dL_law_925 : decode cL_law 925 = .ok (.aload_n 0, 1) := by decide +kernel
theorem dL_law_926 : decode cL_law 926 = .ok (.iload_n 3, 1) := by decide +kernel
theorem dL_law_927 : decode cL_law 927 = .ok (.iconst 1, 1) := by decide +kernel
theorem dL_law_928 : decode cL_law 928 = .ok (.iadd, 1) := by decide +kernel
theorem dL_law_929 : decode cL_law 929 = .ok (.iaload, 1) := by decide +kernel
theorem dL_law_930 : decode cL_law 930 = .ok (.invokevirtual 129, 3) := by decide +kernel
theorem dL_law_933 : decode cL_law 933 = .ok (.if_icmp .eq 19, 3) := by decide +kernel
theorem dL_law_936 : decode cL_law 936 = .ok (.iconst 0, 1) := by decide +kernel
theorem dL_law_937 : decode cL_law 937 = .ok (.ireturn, 1) := by decide +kernel
theorem dL_law_938 : decode cL_law 938 = .ok (.aload_n 1, 1) := by decide +kernel
theorem dL_law_939 : decode cL_law 939 = .ok (.invokevirtual 130, 3) := by decide +kernel
theorem dL_law_942 : decode cL_law 942 = .ok (.aload_n 2, 1) := by decide +kernel
theorem dL_law_943 : decode cL_law 943 = .ok (.invokevirtual 134, 3) := by decide +kernel
theorem dL_law_946 : decode cL_law 946 = .ok (.lcmp, 1) := by decide +kernel
theorem dL_law_947 : decode cL_law 947 = .ok (.ifCond .eq 5, 3) := by decide +kernel
theorem dL_law_950 : decode cL_law 950 = .ok (.iconst 0, 1) := by decide +kernel
theorem dL_law_951 : decode cL_law 951 = .ok (.ireturn, 1) := by decide +kernel
theorem dL_law_952 : decode cL_law 952 = .ok (.iinc 3 5, 3) := by decide +kernel
theorem dL_law_955 : decode cL_law 955 = .ok (.goto (-937), 3) := by decide +kernel
theorem dL_law_958 : decode cL_law 958 = .ok (.iconst 1, 1) := by decide +kernel
theorem dL_law_959 : decode cL_law 959 = .ok (.ireturn, 1) := by decide +kernel
