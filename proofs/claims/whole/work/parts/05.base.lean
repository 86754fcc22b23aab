def nestF : List (String × Nat × String × String × String × String) := [(RX6, 25, RX5, "row", "[I", RX10), (RX7, 67, RX9, "deep", "[I", RX10), (RX10, 121, RX9, "deep", "[I", RX10), (RX7, 70, RX9, "grip", "[I", RX10), (RX10, 129, RX9, "grip", "[I", RX10), (RX2, 19, RX9, "owner", "[I", RX10), (RX4, 53, RX9, "owner", "[I", RX10), (RX10, 159, RX9, "owner", "[I", RX10), (RX10, 162, RX9, "weight", "[I", RX10), (RX4, 44, RX9, "worth", "[I", RX10), (RX2, 39, RX9, "worth", "[I", RX10), (RX10, 165, RX9, "worth", "[I", RX10), (RX2, 75, RX9, "roped", "[I", RX10), (RX10, 107, RX9, "first", "LAnchorWills$Now;", RX10), (RX7, 73, RX9, "rafts", "I", RX10), (RX2, 69, RX9, "rafts", "I", RX10), (RX10, 280, RX9, "rafts", "I", RX10), (RX8, 45, RX9, "anchors", "I", RX10), (RX0, 49, RX9, "anchors", "I", RX10), (RX1, 52, RX9, "anchors", "I", RX10), (RX2, 58, RX9, "anchors", "I", RX10), (RX7, 80, RX9, "anchors", "I", RX10), (RX10, 203, RX9, "anchors", "I", RX10), (RX10, 283, RX9, "ropes", "I", RX10), (RX10, 113, RX6, "known", "I", RX10), (RX10, 117, RX3, "isKept", "Z", RX10), (RX10, 95, RX7, "length", "I", RX10), (RX10, 116, RX1, "known", "I", RX10), (RX10, 286, RX4, "traced", "J", RX10)]
def nestM : List (String × Nat × MethodName × String) := [(RX10, 9, yX9_init, RX10), (RX9, 32, yX5_init, RX10), (RX9, 40, yX10_fill, RX10), (RX9, 44, yX5_empties, RX10), (RX5, 15, yX10_fill, RX10), (RX10, 21, yX5_init, RX10), (RX10, 28, yX6_init, RX10), (RX10, 35, yX3_init, RX10), (RX3, 9, yX5_init, RX10), (RX3, 18, yX6_init, RX10), (RX10, 45, yX7_init, RX10), (RX10, 52, yX8_init, RX10), (RX8, 11, yX5_init, RX10), (RX10, 61, yX0_init, RX10), (RX10, 68, yX2_init, RX10), (RX10, 75, yX1_init, RX10), (RX10, 82, yX4_init, RX10), (RX10, 91, yX7_takes, RX10), (RX7, 19, yX10_put, RX10), (RX10, 99, yX7_readInto, RX10), (RX7, 23, yX9_empties, RX10), (RX7, 99, yX10_at, RX10), (RX7, 91, yX10_isOutside, RX10), (RX7, 76, yX9_addRaft, RX10), (RX9, 63, yX5_set, RX10), (RX5, 27, yX10_put, RX10), (RX7, 83, yX9_addAnchor, RX10), (RX9, 67, yX10_put, RX10), (RX7, 87, yX9_addRope, RX10), (RX9, 71, yX10_at, RX10), (RX9, 75, yX10_has, RX10), (RX9, 79, yX10_bit, RX10), (RX10, 103, yX9_becomes, RX10), (RX9, 55, yX10_copy, RX10), (RX9, 59, yX5_becomes, RX10), (RX5, 19, yX10_copy, RX10), (RX10, 110, yX5_becomes, RX10), (RX10, 168, yX5_lies, RX10), (RX5, 23, yX10_at, RX10), (RX10, 139, yX5_get, RX10), (RX10, 143, yX5_isGone, RX10), (RX5, 39, yX10_has, RX10), (RX10, 146, yX2_estateOf, RX10), (RX2, 47, yX5_lies, RX10), (RX2, 25, yX10_at, RX10), (RX2, 29, yX5_isGone, RX10), (RX2, 35, yX5_get, RX10), (RX10, 150, yX2_townOf, RX10), (RX2, 72, yX10_bit, RX10), (RX2, 62, yX10_has, RX10), (RX10, 153, yX2_mightOf, RX10), (RX2, 81, yX9_strengthOf, RX10), (RX9, 87, yX5_get, RX10), (RX9, 83, yX10_divided, RX10), (RX10, 171, yX8_holdOf, RX10), (RX8, 41, yX10_fill, RX10), (RX8, 51, yX5_lies, RX10), (RX8, 33, yX5_get, RX10), (RX8, 37, yX10_at, RX10), (RX8, 55, yX9_strengthOf, RX10), (RX8, 59, yX10_put, RX10), (RX10, 174, yX2_whoseIs, RX10), (RX10, 180, yX6_remembers, RX10), (RX6, 19, yX10_copy, RX10), (RX10, 183, yX8_blowsOver, RX10), (RX8, 63, yX10_isOutside, RX10), (RX8, 67, yX5_set, RX10), (RX10, 187, yX5_set, RX10), (RX10, 191, yX5_goneRafts, RX10), (RX10, 211, yX2_mayHaul, RX10), (RX2, 54, yX10_lyingIn, RX10), (RX10, 215, yX2_valueOf, RX10), (RX10, 218, yX6_bringsBack, RX10), (RX10, 222, yX2_wealthOfAll, RX10), (RX10, 228, yX8_fewestLinks, RX10), (RX8, 89, yX9_strengthIn, RX10), (RX10, 231, yX8_cellBehind, RX10), (RX8, 71, yX5_becomes, RX10), (RX10, 235, yX8_worstRow, RX10), (RX8, 78, yX10_bit, RX10), (RX8, 85, yX10_has, RX10), (RX10, 241, yX0_berthOf, RX10), (RX0, 26, yX10_fill, RX10), (RX0, 42, yX10_lyingIn, RX10), (RX0, 46, yX10_bit, RX10), (RX0, 55, yX10_has, RX10), (RX0, 38, yX10_at, RX10), (RX0, 77, yX5_get, RX10), (RX0, 81, yX9_strengthIn, RX10), (RX0, 67, yX10_put, RX10), (RX10, 244, yX2_vitalFor, RX10), (RX10, 256, yX1_takes, RX10), (RX1, 33, yX10_put, RX10), (RX10, 258, yX1_fitting, RX10), (RX1, 57, yX9_strengthOf, RX10), (RX1, 40, yX10_thoseThatAre, RX10), (RX1, 44, yX10_at, RX10), (RX1, 61, yX10_bit, RX10), (RX10, 261, yX1_bestQuestion, RX10), (RX10, 265, yX4_markAs, RX10), (RX4, 25, yX10_at, RX10), (RX4, 31, yX9_strengthOf, RX10), (RX4, 49, yX5_get, RX10), (RX10, 273, yX3_keeps, RX10), (RX3, 23, yX5_becomes, RX10), (RX3, 27, yX6_becomes, RX10), (RX10, 277, yX3_givesBack, RX10)]
/-- the words on private members of one nest -/
def NW (U : State) : Prop := (∀ q ∈ nestF, va_Nw (.fieldLinkNest q.1 q.2.1 q.2.2.1 q.2.2.2.1 q.2.2.2.2.1 q.2.2.2.2.2) U) ∧ ∀ q ∈ nestM, va_Nw (.methodLinkNest q.1 q.2.1 q.2.2.1 q.2.2.2) U
theorem nf_X6_25 {U : State} (h : NW U) : va_Nw (.fieldLinkNest RX6 25 RX5 "row" "[I" RX10) U := h.1 (RX6, 25, RX5, "row", "[I", RX10) (List.mem_of_getElem? (i := 0) rfl)
theorem nf_X7_67 {U : State} (h : NW U) : va_Nw (.fieldLinkNest RX7 67 RX9 "deep" "[I" RX10) U := h.1 (RX7, 67, RX9, "deep", "[I", RX10) (List.mem_of_getElem? (i := 1) rfl)
theorem nf_X10_121 {U : State} (h : NW U) : va_Nw (.fieldLinkNest RX10 121 RX9 "deep" "[I" RX10) U := h.1 (RX10, 121, RX9, "deep", "[I", RX10) (List.mem_of_getElem? (i := 2) rfl)
theorem nf_X7_70 {U : State} (h : NW U) : va_Nw (.fieldLinkNest RX7 70 RX9 "grip" "[I" RX10) U := h.1 (RX7, 70, RX9, "grip", "[I", RX10) (List.mem_of_getElem? (i := 3) rfl)
theorem nf_X10_129 {U : State} (h : NW U) : va_Nw (.fieldLinkNest RX10 129 RX9 "grip" "[I" RX10) U := h.1 (RX10, 129, RX9, "grip", "[I", RX10) (List.mem_of_getElem? (i := 4) rfl)
theorem nf_X2_19 {U : State} (h : NW U) : va_Nw (.fieldLinkNest RX2 19 RX9 "owner" "[I" RX10) U := h.1 (RX2, 19, RX9, "owner", "[I", RX10) (List.mem_of_getElem? (i := 5) rfl)
theorem nf_X4_53 {U : State} (h : NW U) : va_Nw (.fieldLinkNest RX4 53 RX9 "owner" "[I" RX10) U := h.1 (RX4, 53, RX9, "owner", "[I", RX10) (List.mem_of_getElem? (i := 6) rfl)
theorem nf_X10_159 {U : State} (h : NW U) : va_Nw (.fieldLinkNest RX10 159 RX9 "owner" "[I" RX10) U := h.1 (RX10, 159, RX9, "owner", "[I", RX10) (List.mem_of_getElem? (i := 7) rfl)
theorem nf_X10_162 {U : State} (h : NW U) : va_Nw (.fieldLinkNest RX10 162 RX9 "weight" "[I" RX10) U := h.1 (RX10, 162, RX9, "weight", "[I", RX10) (List.mem_of_getElem? (i := 8) rfl)
theorem nf_X4_44 {U : State} (h : NW U) : va_Nw (.fieldLinkNest RX4 44 RX9 "worth" "[I" RX10) U := h.1 (RX4, 44, RX9, "worth", "[I", RX10) (List.mem_of_getElem? (i := 9) rfl)
theorem nf_X2_39 {U : State} (h : NW U) : va_Nw (.fieldLinkNest RX2 39 RX9 "worth" "[I" RX10) U := h.1 (RX2, 39, RX9, "worth", "[I", RX10) (List.mem_of_getElem? (i := 10) rfl)
theorem nf_X10_165 {U : State} (h : NW U) : va_Nw (.fieldLinkNest RX10 165 RX9 "worth" "[I" RX10) U := h.1 (RX10, 165, RX9, "worth", "[I", RX10) (List.mem_of_getElem? (i := 11) rfl)
theorem nf_X2_75 {U : State} (h : NW U) : va_Nw (.fieldLinkNest RX2 75 RX9 "roped" "[I" RX10) U := h.1 (RX2, 75, RX9, "roped", "[I", RX10) (List.mem_of_getElem? (i := 12) rfl)
theorem nf_X10_107 {U : State} (h : NW U) : va_Nw (.fieldLinkNest RX10 107 RX9 "first" "LAnchorWills$Now;" RX10) U := h.1 (RX10, 107, RX9, "first", "LAnchorWills$Now;", RX10) (List.mem_of_getElem? (i := 13) rfl)
theorem nf_X7_73 {U : State} (h : NW U) : va_Nw (.fieldLinkNest RX7 73 RX9 "rafts" "I" RX10) U := h.1 (RX7, 73, RX9, "rafts", "I", RX10) (List.mem_of_getElem? (i := 14) rfl)
theorem nf_X2_69 {U : State} (h : NW U) : va_Nw (.fieldLinkNest RX2 69 RX9 "rafts" "I" RX10) U := h.1 (RX2, 69, RX9, "rafts", "I", RX10) (List.mem_of_getElem? (i := 15) rfl)
theorem nf_X10_280 {U : State} (h : NW U) : va_Nw (.fieldLinkNest RX10 280 RX9 "rafts" "I" RX10) U := h.1 (RX10, 280, RX9, "rafts", "I", RX10) (List.mem_of_getElem? (i := 16) rfl)
theorem nf_X8_45 {U : State} (h : NW U) : va_Nw (.fieldLinkNest RX8 45 RX9 "anchors" "I" RX10) U := h.1 (RX8, 45, RX9, "anchors", "I", RX10) (List.mem_of_getElem? (i := 17) rfl)
theorem nf_X0_49 {U : State} (h : NW U) : va_Nw (.fieldLinkNest RX0 49 RX9 "anchors" "I" RX10) U := h.1 (RX0, 49, RX9, "anchors", "I", RX10) (List.mem_of_getElem? (i := 18) rfl)
theorem nf_X1_52 {U : State} (h : NW U) : va_Nw (.fieldLinkNest RX1 52 RX9 "anchors" "I" RX10) U := h.1 (RX1, 52, RX9, "anchors", "I", RX10) (List.mem_of_getElem? (i := 19) rfl)
theorem nf_X2_58 {U : State} (h : NW U) : va_Nw (.fieldLinkNest RX2 58 RX9 "anchors" "I" RX10) U := h.1 (RX2, 58, RX9, "anchors", "I", RX10) (List.mem_of_getElem? (i := 20) rfl)
theorem nf_X7_80 {U : State} (h : NW U) : va_Nw (.fieldLinkNest RX7 80 RX9 "anchors" "I" RX10) U := h.1 (RX7, 80, RX9, "anchors", "I", RX10) (List.mem_of_getElem? (i := 21) rfl)
theorem nf_X10_203 {U : State} (h : NW U) : va_Nw (.fieldLinkNest RX10 203 RX9 "anchors" "I" RX10) U := h.1 (RX10, 203, RX9, "anchors", "I", RX10) (List.mem_of_getElem? (i := 22) rfl)
theorem nf_X10_283 {U : State} (h : NW U) : va_Nw (.fieldLinkNest RX10 283 RX9 "ropes" "I" RX10) U := h.1 (RX10, 283, RX9, "ropes", "I", RX10) (List.mem_of_getElem? (i := 23) rfl)
theorem nf_X10_113 {U : State} (h : NW U) : va_Nw (.fieldLinkNest RX10 113 RX6 "known" "I" RX10) U := h.1 (RX10, 113, RX6, "known", "I", RX10) (List.mem_of_getElem? (i := 24) rfl)
theorem nf_X10_117 {U : State} (h : NW U) : va_Nw (.fieldLinkNest RX10 117 RX3 "isKept" "Z" RX10) U := h.1 (RX10, 117, RX3, "isKept", "Z", RX10) (List.mem_of_getElem? (i := 25) rfl)
theorem nf_X10_95 {U : State} (h : NW U) : va_Nw (.fieldLinkNest RX10 95 RX7 "length" "I" RX10) U := h.1 (RX10, 95, RX7, "length", "I", RX10) (List.mem_of_getElem? (i := 26) rfl)
theorem nf_X10_116 {U : State} (h : NW U) : va_Nw (.fieldLinkNest RX10 116 RX1 "known" "I" RX10) U := h.1 (RX10, 116, RX1, "known", "I", RX10) (List.mem_of_getElem? (i := 27) rfl)
theorem nf_X10_286 {U : State} (h : NW U) : va_Nw (.fieldLinkNest RX10 286 RX4 "traced" "J" RX10) U := h.1 (RX10, 286, RX4, "traced", "J", RX10) (List.mem_of_getElem? (i := 28) rfl)
theorem nm_X10_9 {U : State} (h : NW U) : va_Nw (.methodLinkNest RX10 9 yX9_init RX10) U := h.2 (RX10, 9, yX9_init, RX10) (List.mem_of_getElem? (i := 0) rfl)
theorem nm_X9_32 {U : State} (h : NW U) : va_Nw (.methodLinkNest RX9 32 yX5_init RX10) U := h.2 (RX9, 32, yX5_init, RX10) (List.mem_of_getElem? (i := 1) rfl)
theorem nm_X9_40 {U : State} (h : NW U) : va_Nw (.methodLinkNest RX9 40 yX10_fill RX10) U := h.2 (RX9, 40, yX10_fill, RX10) (List.mem_of_getElem? (i := 2) rfl)
theorem nm_X9_44 {U : State} (h : NW U) : va_Nw (.methodLinkNest RX9 44 yX5_empties RX10) U := h.2 (RX9, 44, yX5_empties, RX10) (List.mem_of_getElem? (i := 3) rfl)
theorem nm_X5_15 {U : State} (h : NW U) : va_Nw (.methodLinkNest RX5 15 yX10_fill RX10) U := h.2 (RX5, 15, yX10_fill, RX10) (List.mem_of_getElem? (i := 4) rfl)
theorem nm_X10_21 {U : State} (h : NW U) : va_Nw (.methodLinkNest RX10 21 yX5_init RX10) U := h.2 (RX10, 21, yX5_init, RX10) (List.mem_of_getElem? (i := 5) rfl)
theorem nm_X10_28 {U : State} (h : NW U) : va_Nw (.methodLinkNest RX10 28 yX6_init RX10) U := h.2 (RX10, 28, yX6_init, RX10) (List.mem_of_getElem? (i := 6) rfl)
theorem nm_X10_35 {U : State} (h : NW U) : va_Nw (.methodLinkNest RX10 35 yX3_init RX10) U := h.2 (RX10, 35, yX3_init, RX10) (List.mem_of_getElem? (i := 7) rfl)
theorem nm_X3_9 {U : State} (h : NW U) : va_Nw (.methodLinkNest RX3 9 yX5_init RX10) U := h.2 (RX3, 9, yX5_init, RX10) (List.mem_of_getElem? (i := 8) rfl)
theorem nm_X3_18 {U : State} (h : NW U) : va_Nw (.methodLinkNest RX3 18 yX6_init RX10) U := h.2 (RX3, 18, yX6_init, RX10) (List.mem_of_getElem? (i := 9) rfl)
theorem nm_X10_45 {U : State} (h : NW U) : va_Nw (.methodLinkNest RX10 45 yX7_init RX10) U := h.2 (RX10, 45, yX7_init, RX10) (List.mem_of_getElem? (i := 10) rfl)
theorem nm_X10_52 {U : State} (h : NW U) : va_Nw (.methodLinkNest RX10 52 yX8_init RX10) U := h.2 (RX10, 52, yX8_init, RX10) (List.mem_of_getElem? (i := 11) rfl)
theorem nm_X8_11 {U : State} (h : NW U) : va_Nw (.methodLinkNest RX8 11 yX5_init RX10) U := h.2 (RX8, 11, yX5_init, RX10) (List.mem_of_getElem? (i := 12) rfl)
theorem nm_X10_61 {U : State} (h : NW U) : va_Nw (.methodLinkNest RX10 61 yX0_init RX10) U := h.2 (RX10, 61, yX0_init, RX10) (List.mem_of_getElem? (i := 13) rfl)
theorem nm_X10_68 {U : State} (h : NW U) : va_Nw (.methodLinkNest RX10 68 yX2_init RX10) U := h.2 (RX10, 68, yX2_init, RX10) (List.mem_of_getElem? (i := 14) rfl)
theorem nm_X10_75 {U : State} (h : NW U) : va_Nw (.methodLinkNest RX10 75 yX1_init RX10) U := h.2 (RX10, 75, yX1_init, RX10) (List.mem_of_getElem? (i := 15) rfl)
theorem nm_X10_82 {U : State} (h : NW U) : va_Nw (.methodLinkNest RX10 82 yX4_init RX10) U := h.2 (RX10, 82, yX4_init, RX10) (List.mem_of_getElem? (i := 16) rfl)
theorem nm_X10_91 {U : State} (h : NW U) : va_Nw (.methodLinkNest RX10 91 yX7_takes RX10) U := h.2 (RX10, 91, yX7_takes, RX10) (List.mem_of_getElem? (i := 17) rfl)
theorem nm_X7_19 {U : State} (h : NW U) : va_Nw (.methodLinkNest RX7 19 yX10_put RX10) U := h.2 (RX7, 19, yX10_put, RX10) (List.mem_of_getElem? (i := 18) rfl)
theorem nm_X10_99 {U : State} (h : NW U) : va_Nw (.methodLinkNest RX10 99 yX7_readInto RX10) U := h.2 (RX10, 99, yX7_readInto, RX10) (List.mem_of_getElem? (i := 19) rfl)
theorem nm_X7_23 {U : State} (h : NW U) : va_Nw (.methodLinkNest RX7 23 yX9_empties RX10) U := h.2 (RX7, 23, yX9_empties, RX10) (List.mem_of_getElem? (i := 20) rfl)
theorem nm_X7_99 {U : State} (h : NW U) : va_Nw (.methodLinkNest RX7 99 yX10_at RX10) U := h.2 (RX7, 99, yX10_at, RX10) (List.mem_of_getElem? (i := 21) rfl)
theorem nm_X7_91 {U : State} (h : NW U) : va_Nw (.methodLinkNest RX7 91 yX10_isOutside RX10) U := h.2 (RX7, 91, yX10_isOutside, RX10) (List.mem_of_getElem? (i := 22) rfl)
theorem nm_X7_76 {U : State} (h : NW U) : va_Nw (.methodLinkNest RX7 76 yX9_addRaft RX10) U := h.2 (RX7, 76, yX9_addRaft, RX10) (List.mem_of_getElem? (i := 23) rfl)
theorem nm_X9_63 {U : State} (h : NW U) : va_Nw (.methodLinkNest RX9 63 yX5_set RX10) U := h.2 (RX9, 63, yX5_set, RX10) (List.mem_of_getElem? (i := 24) rfl)
theorem nm_X5_27 {U : State} (h : NW U) : va_Nw (.methodLinkNest RX5 27 yX10_put RX10) U := h.2 (RX5, 27, yX10_put, RX10) (List.mem_of_getElem? (i := 25) rfl)
theorem nm_X7_83 {U : State} (h : NW U) : va_Nw (.methodLinkNest RX7 83 yX9_addAnchor RX10) U := h.2 (RX7, 83, yX9_addAnchor, RX10) (List.mem_of_getElem? (i := 26) rfl)
theorem nm_X9_67 {U : State} (h : NW U) : va_Nw (.methodLinkNest RX9 67 yX10_put RX10) U := h.2 (RX9, 67, yX10_put, RX10) (List.mem_of_getElem? (i := 27) rfl)
theorem nm_X7_87 {U : State} (h : NW U) : va_Nw (.methodLinkNest RX7 87 yX9_addRope RX10) U := h.2 (RX7, 87, yX9_addRope, RX10) (List.mem_of_getElem? (i := 28) rfl)
theorem nm_X9_71 {U : State} (h : NW U) : va_Nw (.methodLinkNest RX9 71 yX10_at RX10) U := h.2 (RX9, 71, yX10_at, RX10) (List.mem_of_getElem? (i := 29) rfl)
theorem nm_X9_75 {U : State} (h : NW U) : va_Nw (.methodLinkNest RX9 75 yX10_has RX10) U := h.2 (RX9, 75, yX10_has, RX10) (List.mem_of_getElem? (i := 30) rfl)
theorem nm_X9_79 {U : State} (h : NW U) : va_Nw (.methodLinkNest RX9 79 yX10_bit RX10) U := h.2 (RX9, 79, yX10_bit, RX10) (List.mem_of_getElem? (i := 31) rfl)
theorem nm_X10_103 {U : State} (h : NW U) : va_Nw (.methodLinkNest RX10 103 yX9_becomes RX10) U := h.2 (RX10, 103, yX9_becomes, RX10) (List.mem_of_getElem? (i := 32) rfl)
theorem nm_X9_55 {U : State} (h : NW U) : va_Nw (.methodLinkNest RX9 55 yX10_copy RX10) U := h.2 (RX9, 55, yX10_copy, RX10) (List.mem_of_getElem? (i := 33) rfl)
theorem nm_X9_59 {U : State} (h : NW U) : va_Nw (.methodLinkNest RX9 59 yX5_becomes RX10) U := h.2 (RX9, 59, yX5_becomes, RX10) (List.mem_of_getElem? (i := 34) rfl)
theorem nm_X5_19 {U : State} (h : NW U) : va_Nw (.methodLinkNest RX5 19 yX10_copy RX10) U := h.2 (RX5, 19, yX10_copy, RX10) (List.mem_of_getElem? (i := 35) rfl)
theorem nm_X10_110 {U : State} (h : NW U) : va_Nw (.methodLinkNest RX10 110 yX5_becomes RX10) U := h.2 (RX10, 110, yX5_becomes, RX10) (List.mem_of_getElem? (i := 36) rfl)
theorem nm_X10_168 {U : State} (h : NW U) : va_Nw (.methodLinkNest RX10 168 yX5_lies RX10) U := h.2 (RX10, 168, yX5_lies, RX10) (List.mem_of_getElem? (i := 37) rfl)
theorem nm_X5_23 {U : State} (h : NW U) : va_Nw (.methodLinkNest RX5 23 yX10_at RX10) U := h.2 (RX5, 23, yX10_at, RX10) (List.mem_of_getElem? (i := 38) rfl)
theorem nm_X10_139 {U : State} (h : NW U) : va_Nw (.methodLinkNest RX10 139 yX5_get RX10) U := h.2 (RX10, 139, yX5_get, RX10) (List.mem_of_getElem? (i := 39) rfl)
theorem nm_X10_143 {U : State} (h : NW U) : va_Nw (.methodLinkNest RX10 143 yX5_isGone RX10) U := h.2 (RX10, 143, yX5_isGone, RX10) (List.mem_of_getElem? (i := 40) rfl)
theorem nm_X5_39 {U : State} (h : NW U) : va_Nw (.methodLinkNest RX5 39 yX10_has RX10) U := h.2 (RX5, 39, yX10_has, RX10) (List.mem_of_getElem? (i := 41) rfl)
theorem nm_X10_146 {U : State} (h : NW U) : va_Nw (.methodLinkNest RX10 146 yX2_estateOf RX10) U := h.2 (RX10, 146, yX2_estateOf, RX10) (List.mem_of_getElem? (i := 42) rfl)
theorem nm_X2_47 {U : State} (h : NW U) : va_Nw (.methodLinkNest RX2 47 yX5_lies RX10) U := h.2 (RX2, 47, yX5_lies, RX10) (List.mem_of_getElem? (i := 43) rfl)
theorem nm_X2_25 {U : State} (h : NW U) : va_Nw (.methodLinkNest RX2 25 yX10_at RX10) U := h.2 (RX2, 25, yX10_at, RX10) (List.mem_of_getElem? (i := 44) rfl)
theorem nm_X2_29 {U : State} (h : NW U) : va_Nw (.methodLinkNest RX2 29 yX5_isGone RX10) U := h.2 (RX2, 29, yX5_isGone, RX10) (List.mem_of_getElem? (i := 45) rfl)
theorem nm_X2_35 {U : State} (h : NW U) : va_Nw (.methodLinkNest RX2 35 yX5_get RX10) U := h.2 (RX2, 35, yX5_get, RX10) (List.mem_of_getElem? (i := 46) rfl)
theorem nm_X10_150 {U : State} (h : NW U) : va_Nw (.methodLinkNest RX10 150 yX2_townOf RX10) U := h.2 (RX10, 150, yX2_townOf, RX10) (List.mem_of_getElem? (i := 47) rfl)
theorem nm_X2_72 {U : State} (h : NW U) : va_Nw (.methodLinkNest RX2 72 yX10_bit RX10) U := h.2 (RX2, 72, yX10_bit, RX10) (List.mem_of_getElem? (i := 48) rfl)
theorem nm_X2_62 {U : State} (h : NW U) : va_Nw (.methodLinkNest RX2 62 yX10_has RX10) U := h.2 (RX2, 62, yX10_has, RX10) (List.mem_of_getElem? (i := 49) rfl)
theorem nm_X10_153 {U : State} (h : NW U) : va_Nw (.methodLinkNest RX10 153 yX2_mightOf RX10) U := h.2 (RX10, 153, yX2_mightOf, RX10) (List.mem_of_getElem? (i := 50) rfl)
theorem nm_X2_81 {U : State} (h : NW U) : va_Nw (.methodLinkNest RX2 81 yX9_strengthOf RX10) U := h.2 (RX2, 81, yX9_strengthOf, RX10) (List.mem_of_getElem? (i := 51) rfl)
theorem nm_X9_87 {U : State} (h : NW U) : va_Nw (.methodLinkNest RX9 87 yX5_get RX10) U := h.2 (RX9, 87, yX5_get, RX10) (List.mem_of_getElem? (i := 52) rfl)
theorem nm_X9_83 {U : State} (h : NW U) : va_Nw (.methodLinkNest RX9 83 yX10_divided RX10) U := h.2 (RX9, 83, yX10_divided, RX10) (List.mem_of_getElem? (i := 53) rfl)
theorem nm_X10_171 {U : State} (h : NW U) : va_Nw (.methodLinkNest RX10 171 yX8_holdOf RX10) U := h.2 (RX10, 171, yX8_holdOf, RX10) (List.mem_of_getElem? (i := 54) rfl)
theorem nm_X8_41 {U : State} (h : NW U) : va_Nw (.methodLinkNest RX8 41 yX10_fill RX10) U := h.2 (RX8, 41, yX10_fill, RX10) (List.mem_of_getElem? (i := 55) rfl)
theorem nm_X8_51 {U : State} (h : NW U) : va_Nw (.methodLinkNest RX8 51 yX5_lies RX10) U := h.2 (RX8, 51, yX5_lies, RX10) (List.mem_of_getElem? (i := 56) rfl)
theorem nm_X8_33 {U : State} (h : NW U) : va_Nw (.methodLinkNest RX8 33 yX5_get RX10) U := h.2 (RX8, 33, yX5_get, RX10) (List.mem_of_getElem? (i := 57) rfl)
theorem nm_X8_37 {U : State} (h : NW U) : va_Nw (.methodLinkNest RX8 37 yX10_at RX10) U := h.2 (RX8, 37, yX10_at, RX10) (List.mem_of_getElem? (i := 58) rfl)
theorem nm_X8_55 {U : State} (h : NW U) : va_Nw (.methodLinkNest RX8 55 yX9_strengthOf RX10) U := h.2 (RX8, 55, yX9_strengthOf, RX10) (List.mem_of_getElem? (i := 59) rfl)
theorem nm_X8_59 {U : State} (h : NW U) : va_Nw (.methodLinkNest RX8 59 yX10_put RX10) U := h.2 (RX8, 59, yX10_put, RX10) (List.mem_of_getElem? (i := 60) rfl)
theorem nm_X10_174 {U : State} (h : NW U) : va_Nw (.methodLinkNest RX10 174 yX2_whoseIs RX10) U := h.2 (RX10, 174, yX2_whoseIs, RX10) (List.mem_of_getElem? (i := 61) rfl)
theorem nm_X10_180 {U : State} (h : NW U) : va_Nw (.methodLinkNest RX10 180 yX6_remembers RX10) U := h.2 (RX10, 180, yX6_remembers, RX10) (List.mem_of_getElem? (i := 62) rfl)
theorem nm_X6_19 {U : State} (h : NW U) : va_Nw (.methodLinkNest RX6 19 yX10_copy RX10) U := h.2 (RX6, 19, yX10_copy, RX10) (List.mem_of_getElem? (i := 63) rfl)
theorem nm_X10_183 {U : State} (h : NW U) : va_Nw (.methodLinkNest RX10 183 yX8_blowsOver RX10) U := h.2 (RX10, 183, yX8_blowsOver, RX10) (List.mem_of_getElem? (i := 64) rfl)
theorem nm_X8_63 {U : State} (h : NW U) : va_Nw (.methodLinkNest RX8 63 yX10_isOutside RX10) U := h.2 (RX8, 63, yX10_isOutside, RX10) (List.mem_of_getElem? (i := 65) rfl)
theorem nm_X8_67 {U : State} (h : NW U) : va_Nw (.methodLinkNest RX8 67 yX5_set RX10) U := h.2 (RX8, 67, yX5_set, RX10) (List.mem_of_getElem? (i := 66) rfl)
theorem nm_X10_187 {U : State} (h : NW U) : va_Nw (.methodLinkNest RX10 187 yX5_set RX10) U := h.2 (RX10, 187, yX5_set, RX10) (List.mem_of_getElem? (i := 67) rfl)
theorem nm_X10_191 {U : State} (h : NW U) : va_Nw (.methodLinkNest RX10 191 yX5_goneRafts RX10) U := h.2 (RX10, 191, yX5_goneRafts, RX10) (List.mem_of_getElem? (i := 68) rfl)
theorem nm_X10_211 {U : State} (h : NW U) : va_Nw (.methodLinkNest RX10 211 yX2_mayHaul RX10) U := h.2 (RX10, 211, yX2_mayHaul, RX10) (List.mem_of_getElem? (i := 69) rfl)
theorem nm_X2_54 {U : State} (h : NW U) : va_Nw (.methodLinkNest RX2 54 yX10_lyingIn RX10) U := h.2 (RX2, 54, yX10_lyingIn, RX10) (List.mem_of_getElem? (i := 70) rfl)
theorem nm_X10_215 {U : State} (h : NW U) : va_Nw (.methodLinkNest RX10 215 yX2_valueOf RX10) U := h.2 (RX10, 215, yX2_valueOf, RX10) (List.mem_of_getElem? (i := 71) rfl)
theorem nm_X10_218 {U : State} (h : NW U) : va_Nw (.methodLinkNest RX10 218 yX6_bringsBack RX10) U := h.2 (RX10, 218, yX6_bringsBack, RX10) (List.mem_of_getElem? (i := 72) rfl)
theorem nm_X10_222 {U : State} (h : NW U) : va_Nw (.methodLinkNest RX10 222 yX2_wealthOfAll RX10) U := h.2 (RX10, 222, yX2_wealthOfAll, RX10) (List.mem_of_getElem? (i := 73) rfl)
theorem nm_X10_228 {U : State} (h : NW U) : va_Nw (.methodLinkNest RX10 228 yX8_fewestLinks RX10) U := h.2 (RX10, 228, yX8_fewestLinks, RX10) (List.mem_of_getElem? (i := 74) rfl)
theorem nm_X8_89 {U : State} (h : NW U) : va_Nw (.methodLinkNest RX8 89 yX9_strengthIn RX10) U := h.2 (RX8, 89, yX9_strengthIn, RX10) (List.mem_of_getElem? (i := 75) rfl)
theorem nm_X10_231 {U : State} (h : NW U) : va_Nw (.methodLinkNest RX10 231 yX8_cellBehind RX10) U := h.2 (RX10, 231, yX8_cellBehind, RX10) (List.mem_of_getElem? (i := 76) rfl)
theorem nm_X8_71 {U : State} (h : NW U) : va_Nw (.methodLinkNest RX8 71 yX5_becomes RX10) U := h.2 (RX8, 71, yX5_becomes, RX10) (List.mem_of_getElem? (i := 77) rfl)
theorem nm_X10_235 {U : State} (h : NW U) : va_Nw (.methodLinkNest RX10 235 yX8_worstRow RX10) U := h.2 (RX10, 235, yX8_worstRow, RX10) (List.mem_of_getElem? (i := 78) rfl)
theorem nm_X8_78 {U : State} (h : NW U) : va_Nw (.methodLinkNest RX8 78 yX10_bit RX10) U := h.2 (RX8, 78, yX10_bit, RX10) (List.mem_of_getElem? (i := 79) rfl)
theorem nm_X8_85 {U : State} (h : NW U) : va_Nw (.methodLinkNest RX8 85 yX10_has RX10) U := h.2 (RX8, 85, yX10_has, RX10) (List.mem_of_getElem? (i := 80) rfl)
theorem nm_X10_241 {U : State} (h : NW U) : va_Nw (.methodLinkNest RX10 241 yX0_berthOf RX10) U := h.2 (RX10, 241, yX0_berthOf, RX10) (List.mem_of_getElem? (i := 81) rfl)
theorem nm_X0_26 {U : State} (h : NW U) : va_Nw (.methodLinkNest RX0 26 yX10_fill RX10) U := h.2 (RX0, 26, yX10_fill, RX10) (List.mem_of_getElem? (i := 82) rfl)
theorem nm_X0_42 {U : State} (h : NW U) : va_Nw (.methodLinkNest RX0 42 yX10_lyingIn RX10) U := h.2 (RX0, 42, yX10_lyingIn, RX10) (List.mem_of_getElem? (i := 83) rfl)
theorem nm_X0_46 {U : State} (h : NW U) : va_Nw (.methodLinkNest RX0 46 yX10_bit RX10) U := h.2 (RX0, 46, yX10_bit, RX10) (List.mem_of_getElem? (i := 84) rfl)
theorem nm_X0_55 {U : State} (h : NW U) : va_Nw (.methodLinkNest RX0 55 yX10_has RX10) U := h.2 (RX0, 55, yX10_has, RX10) (List.mem_of_getElem? (i := 85) rfl)
theorem nm_X0_38 {U : State} (h : NW U) : va_Nw (.methodLinkNest RX0 38 yX10_at RX10) U := h.2 (RX0, 38, yX10_at, RX10) (List.mem_of_getElem? (i := 86) rfl)
theorem nm_X0_77 {U : State} (h : NW U) : va_Nw (.methodLinkNest RX0 77 yX5_get RX10) U := h.2 (RX0, 77, yX5_get, RX10) (List.mem_of_getElem? (i := 87) rfl)
theorem nm_X0_81 {U : State} (h : NW U) : va_Nw (.methodLinkNest RX0 81 yX9_strengthIn RX10) U := h.2 (RX0, 81, yX9_strengthIn, RX10) (List.mem_of_getElem? (i := 88) rfl)
theorem nm_X0_67 {U : State} (h : NW U) : va_Nw (.methodLinkNest RX0 67 yX10_put RX10) U := h.2 (RX0, 67, yX10_put, RX10) (List.mem_of_getElem? (i := 89) rfl)
theorem nm_X10_244 {U : State} (h : NW U) : va_Nw (.methodLinkNest RX10 244 yX2_vitalFor RX10) U := h.2 (RX10, 244, yX2_vitalFor, RX10) (List.mem_of_getElem? (i := 90) rfl)
theorem nm_X10_256 {U : State} (h : NW U) : va_Nw (.methodLinkNest RX10 256 yX1_takes RX10) U := h.2 (RX10, 256, yX1_takes, RX10) (List.mem_of_getElem? (i := 91) rfl)
theorem nm_X1_33 {U : State} (h : NW U) : va_Nw (.methodLinkNest RX1 33 yX10_put RX10) U := h.2 (RX1, 33, yX10_put, RX10) (List.mem_of_getElem? (i := 92) rfl)
theorem nm_X10_258 {U : State} (h : NW U) : va_Nw (.methodLinkNest RX10 258 yX1_fitting RX10) U := h.2 (RX10, 258, yX1_fitting, RX10) (List.mem_of_getElem? (i := 93) rfl)
theorem nm_X1_57 {U : State} (h : NW U) : va_Nw (.methodLinkNest RX1 57 yX9_strengthOf RX10) U := h.2 (RX1, 57, yX9_strengthOf, RX10) (List.mem_of_getElem? (i := 94) rfl)
theorem nm_X1_40 {U : State} (h : NW U) : va_Nw (.methodLinkNest RX1 40 yX10_thoseThatAre RX10) U := h.2 (RX1, 40, yX10_thoseThatAre, RX10) (List.mem_of_getElem? (i := 95) rfl)
theorem nm_X1_44 {U : State} (h : NW U) : va_Nw (.methodLinkNest RX1 44 yX10_at RX10) U := h.2 (RX1, 44, yX10_at, RX10) (List.mem_of_getElem? (i := 96) rfl)
theorem nm_X1_61 {U : State} (h : NW U) : va_Nw (.methodLinkNest RX1 61 yX10_bit RX10) U := h.2 (RX1, 61, yX10_bit, RX10) (List.mem_of_getElem? (i := 97) rfl)
theorem nm_X10_261 {U : State} (h : NW U) : va_Nw (.methodLinkNest RX10 261 yX1_bestQuestion RX10) U := h.2 (RX10, 261, yX1_bestQuestion, RX10) (List.mem_of_getElem? (i := 98) rfl)
theorem nm_X10_265 {U : State} (h : NW U) : va_Nw (.methodLinkNest RX10 265 yX4_markAs RX10) U := h.2 (RX10, 265, yX4_markAs, RX10) (List.mem_of_getElem? (i := 99) rfl)
theorem nm_X4_25 {U : State} (h : NW U) : va_Nw (.methodLinkNest RX4 25 yX10_at RX10) U := h.2 (RX4, 25, yX10_at, RX10) (List.mem_of_getElem? (i := 100) rfl)
theorem nm_X4_31 {U : State} (h : NW U) : va_Nw (.methodLinkNest RX4 31 yX9_strengthOf RX10) U := h.2 (RX4, 31, yX9_strengthOf, RX10) (List.mem_of_getElem? (i := 101) rfl)
theorem nm_X4_49 {U : State} (h : NW U) : va_Nw (.methodLinkNest RX4 49 yX5_get RX10) U := h.2 (RX4, 49, yX5_get, RX10) (List.mem_of_getElem? (i := 102) rfl)
theorem nm_X10_273 {U : State} (h : NW U) : va_Nw (.methodLinkNest RX10 273 yX3_keeps RX10) U := h.2 (RX10, 273, yX3_keeps, RX10) (List.mem_of_getElem? (i := 103) rfl)
theorem nm_X3_23 {U : State} (h : NW U) : va_Nw (.methodLinkNest RX3 23 yX5_becomes RX10) U := h.2 (RX3, 23, yX5_becomes, RX10) (List.mem_of_getElem? (i := 104) rfl)
theorem nm_X3_27 {U : State} (h : NW U) : va_Nw (.methodLinkNest RX3 27 yX6_becomes RX10) U := h.2 (RX3, 27, yX6_becomes, RX10) (List.mem_of_getElem? (i := 105) rfl)
theorem nm_X10_277 {U : State} (h : NW U) : va_Nw (.methodLinkNest RX10 277 yX3_givesBack RX10) U := h.2 (RX10, 277, yX3_givesBack, RX10) (List.mem_of_getElem? (i := 106) rfl)
/-! words for the state of a system: cell by cell, slot by slot -/
abbrev Sg : Type := Nat → Nat → Int32
def s1 (σ : Sg) (c i : Nat) (x : Int32) : Sg := fun c' => if c' = c then upd (σ c) i x else σ c'
def sA (σ : Sg) (c : Nat) (f : Nat → Int32) : Sg := fun c' => if c' = c then f else σ c'
def rdA (σ : Sg) (c n : Nat) (i : Int32) : Option Int32 := if i < 0 ∨ n ≤ i.toNatClampNeg then none else some (σ c i.toNatClampNeg)
def wrA (σ : Sg) (c n : Nat) (i x : Int32) : Option Sg := if i < 0 ∨ n ≤ i.toNatClampNeg then none else some (sA σ c (upd (σ c) i.toNatClampNeg x))
def dvI (x y : Int32) : Option Int32 := if y = 0 then none else some (x / y)
def rmI (x y : Int32) : Option Int32 := if y = 0 then none else some (x - x / y * y)
def zbI (x : Int32) : Option Int32 := if x = 0 ∨ x = 1 then some x else none
theorem k_bd {α β : Type} {a : Option α} {f : α → Option β} {r : β} (h : a.bind f = some r) : ∃ v, a = some v ∧ f v = some r := Option.bind_eq_some_iff.mp h
theorem k_ip {α : Type} {c : Prop} [Decidable c] {a b x : α} (hc : c) (h : (if c then a else b) = x) : a = x := by rw [if_pos hc] at h; exact h
theorem k_in {α : Type} {c : Prop} [Decidable c] {a b x : α} (hc : ¬ c) (h : (if c then a else b) = x) : b = x := by rw [if_neg hc] at h; exact h
theorem k_sm {α : Type} {a b : α} (h : some a = some b) : a = b := Option.some.inj h
theorem k_rd {σ : Sg} {c n : Nat} {i v : Int32} (h : rdA σ c n i = some v) : vp_in i n ∧ σ c i.toNatClampNeg = v := by
  unfold rdA at h
  by_cases q : i < 0 ∨ n ≤ i.toNatClampNeg
  · rw [if_pos q] at h; cases h
  · rw [if_neg q] at h; exact ⟨q, Option.some.inj h⟩
theorem k_wr {σ σ' : Sg} {c n : Nat} {i x : Int32} (h : wrA σ c n i x = some σ') : vp_in i n ∧ sA σ c (upd (σ c) i.toNatClampNeg x) = σ' := by
  unfold wrA at h
  by_cases q : i < 0 ∨ n ≤ i.toNatClampNeg
  · rw [if_pos q] at h; cases h
  · rw [if_neg q] at h; exact ⟨q, Option.some.inj h⟩
theorem k_dv {x y v : Int32} (h : dvI x y = some v) : ¬ y = 0 ∧ x / y = v := by
  unfold dvI at h
  by_cases q : y = 0
  · rw [if_pos q] at h; cases h
  · rw [if_neg q] at h; exact ⟨q, Option.some.inj h⟩
theorem k_rm {x y v : Int32} (h : rmI x y = some v) : ¬ y = 0 ∧ x - x / y * y = v := by
  unfold rmI at h
  by_cases q : y = 0
  · rw [if_pos q] at h; cases h
  · rw [if_neg q] at h; exact ⟨q, Option.some.inj h⟩
theorem k_01 {x : Int32} (h : x = 0 ∨ x = 1) : narrow .boolean (.int x) = .int x := by
  rcases h with h | h <;> rw [h] <;> rfl
theorem k_zb {x v : Int32} (h : zbI x = some v) : narrow .boolean (.int x) = .int x ∧ x = v := by
  unfold zbI at h
  by_cases q : x = 0 ∨ x = 1
  · rw [if_pos q] at h; exact ⟨k_01 q, Option.some.inj h⟩
  · rw [if_neg q] at h; cases h
/-! the machine's side: what a method's walk has at hand -/
def Cx (p : Program) (s : State) (m : MethodId) (args : Array Value) (meth : Method) (c : Code) (cc : ByteArray) (nL : Nat) (ret : Option FieldType) (own : String) (Ts : List Cond) : Prop :=
  CallFix p m c cc nL s args Ts own ∧ meth.sig.returnType = ret ∧ meth.locks = false
theorem lv_nmi {p : Program} {l : Launch} {e : Env} {R : Room} {s : State} {m : MethodId} {args : Array Value} {below : List Frame} {meth : Method} {c : Code} {H : Heap} {locs : List Loc} {cells slots : Nat} {Q : State → Prop} {pc : Nat} {ls : Array Slot} {rest : List Value} {x y : Int32} (h : x = y)
    (k : W p l e R s m args below meth c H locs cells slots Q (F0 m pc ls (.int y :: rest))) : W p l e R s m args below meth c H locs cells slots Q (F0 m pc ls (.int x :: rest)) := h ▸ k
abbrev tysA (cI cB cZ : ClassId) : List (ClassId × FieldType) := [(cI, .int), (cB, .byte), (cZ, .boolean)]
/-- a world as a method finds it -/
def PW (D : va_G) (cI cB cZ : ClassId) (ws : va_W) (U : State) : Prop := va_P D vwCl ws U.heap ∧ va_K D vwCl (tysA cI cB cZ) U ∧ NW U
theorem NW.same {u U : State} (h : u.vm = U.vm) (hZ : NW u) : NW U := ⟨fun q hq => va_Nw.same rfl h (hZ.1 q hq), fun q hq => va_Nw.same rfl h (hZ.2 q hq)⟩
theorem NW.warm {s U : State} (hW : s.WarmedH U.vm) (hZ : NW s) : NW U := ⟨fun q hq => va_Nw.warmF hW (hZ.1 q hq), fun q hq => va_Nw.warmM hW (hZ.2 q hq)⟩
theorem PW.blind {D : va_G} {cI cB cZ : ClassId} {ws : va_W} {av : List Value} : FrameBlind (va_Pc av (PW D cI cB cZ ws)) := fun a U g mk q => by
  obtain ⟨q0, qP, qK, qN⟩ := q
  exact ⟨q0, qP, va_K.moved (u := U) (U := U.calling g mk a) (Vm.Alike.refl U.vm) qK, NW.same (u := U) (U := U.calling g mk a) rfl qN⟩
theorem PW.mk {D : va_G} {cI cB cZ : ClassId} {ws : va_W} {av : List Value} {s : State} {H : Heap} (hP : va_P D vwCl ws H) (hK : va_K D vwCl (tysA cI cB cZ) s) (hN : NW s) : ∀ U : State, U.heap = H → s.WarmedH U.vm → va_Pc av (PW D cI cB cZ ws) av.toArray U :=
  fun U hU hW => ⟨rfl, by rw [hU]; exact hP, va_K.moved hW.alike hK, NW.warm hW hN⟩
theorem PT.blind {av : List Value} : FrameBlind (va_Pc av (fun _ => True)) := fun _ _ _ _ q => q
/-- an answer, and the world behind it: the state u of it, the cells that may have changed -/
def QI {S : Type} (D : va_G) (Wd : S → va_W) (A : Nat → Prop) (r : Int32) (u : S) : Array Value → State → Outcome → State → Prop := va_Qi (fun r' u' => r' = r ∧ u' = u) (fun u' t => va_P D vwCl (Wd u') t.heap) A
def QV {S : Type} (D : va_G) (Wd : S → va_W) (A : Nat → Prop) (u : S) : Array Value → State → Outcome → State → Prop := va_Qv (fun u' => u' = u) (fun u' t => va_P D vwCl (Wd u') t.heap) A
def QcReadL (r : Int64) : Array Value → State → Outcome → State → Prop := fun _ st o t => o = .returned (some (.long r)) ∧ t.heap = st.heap
def QcReadR (r : Nat) : Array Value → State → Outcome → State → Prop := fun _ st o t => o = .returned (some (.ref r)) ∧ t.heap = st.heap
theorem pw_end {D : va_G} {ws : va_W} {t : State} {H : Heap} (ht : t.heap = H) (h : va_P D vwCl ws H) : va_P D vwCl ws t.heap := by
  rw [ht]; exact h
section RD
variable {p : Program} {l : Launch} {e : Env} {R : Room} {s : State} {m : MethodId} {args : Array Value} {below : List Frame} {meth : Method} {c : Code} {H : Heap} {locs : List Loc} {Q : State → Prop} {pc : Nat} {ls : Array Slot} {rest st0 : List Value} {a : Array Value} {cells slots : Nat}
theorem rd_call {v0 : Value} {Qa : State → Outcome → State → Prop} (hr : va_Run p l e R s m args below meth c H locs cells slots 0 0 (F0 m pc ls st0) rest Qa (fun _ => False)) (hv : ∀ st v t, Qa st (.returned v) t → v = some v0 ∧ t.heap = st.heap)
    (kk : W p l e R s m args below meth c H locs cells slots Q (F0 m (pc + 3) ls (v0 :: rest))) : W p l e R s m args below meth c H locs cells slots Q (F0 m pc ls st0) := by
  intro T hT X
  obtain ⟨v, st₀, t, T', L, h0, X', hL, e1, e2, hq, st⟩ := hr T hT X
  obtain ⟨rfl, hh⟩ := hv _ _ _ hq
  obtain ⟨t2, a1, b1⟩ := kk T' (by rw [e1, hh, h0]) (Stand.forget X' (fun q h => (hL q h).elim))
  exact ⟨t2, st t2 a1, b1⟩
theorem rd_calli {r : Int32} (hr : va_Run p l e R s m args below meth c H locs cells slots 0 0 (F0 m pc ls st0) rest (QcRead r a) (fun _ => False))
    (kk : W p l e R s m args below meth c H locs cells slots Q (F0 m (pc + 3) ls (.int r :: rest))) : W p l e R s m args below meth c H locs cells slots Q (F0 m pc ls st0) :=
  rd_call hr (fun st v t h => by obtain ⟨h1, h2⟩ := h; cases h1; exact ⟨rfl, h2⟩) kk
theorem rd_calll {r : Int64} (hr : va_Run p l e R s m args below meth c H locs cells slots 0 0 (F0 m pc ls st0) rest (QcReadL r a) (fun _ => False))
    (kk : W p l e R s m args below meth c H locs cells slots Q (F0 m (pc + 3) ls (.long r :: rest))) : W p l e R s m args below meth c H locs cells slots Q (F0 m pc ls st0) :=
  rd_call hr (fun st v t h => by obtain ⟨h1, h2⟩ := h; cases h1; exact ⟨rfl, h2⟩) kk
theorem rd_callr {r : Nat} (hr : va_Run p l e R s m args below meth c H locs cells slots 0 0 (F0 m pc ls st0) rest (QcReadR r a) (fun _ => False))
    (kk : W p l e R s m args below meth c H locs cells slots Q (F0 m (pc + 3) ls (.ref r :: rest))) : W p l e R s m args below meth c H locs cells slots Q (F0 m pc ls st0) :=
  rd_call hr (fun st v t h => by obtain ⟨h1, h2⟩ := h; cases h1; exact ⟨rfl, h2⟩) kk
theorem wr_calli {S : Type} {D : va_G} {Wd : S → va_W} {A A0 : Nat → Prop} {r : Int32} {u : S} {H0 : Heap} (hr : va_Run p l e R s m args below meth c H locs cells slots 0 0 (F0 m pc ls st0) rest (QI D Wd A r u a) A) (hS : va_S A0 H0 H locs) (hA : ∀ q, A q → A0 q)
    (kk : ∀ (H1 : Heap) (locs1 : List Loc), va_P D vwCl (Wd u) H1 → va_S A0 H0 H1 locs1 → W p l e R s m args below meth c H1 locs1 cells slots Q (F0 m (pc + 3) ls (.int r :: rest))) : W p l e R s m args below meth c H locs cells slots Q (F0 m pc ls st0) := by
  refine va_calli hr hS (fun q _ h => hA q h) hA (fun r' u' t H1 locs1 ht hvm hw hB hz hk hS1 => ?_)
  obtain ⟨rfl, rfl⟩ := hw
  rw [ht] at hB
  exact kk H1 locs1 hB hS1
theorem wr_callv {S : Type} {D : va_G} {Wd : S → va_W} {A A0 : Nat → Prop} {u : S} {H0 : Heap} (hr : va_Run p l e R s m args below meth c H locs cells slots 0 0 (F0 m pc ls st0) rest (QV D Wd A u a) A) (hS : va_S A0 H0 H locs) (hA : ∀ q, A q → A0 q)
    (kk : ∀ (H1 : Heap) (locs1 : List Loc), va_P D vwCl (Wd u) H1 → va_S A0 H0 H1 locs1 → W p l e R s m args below meth c H1 locs1 cells slots Q (F0 m (pc + 3) ls rest)) : W p l e R s m args below meth c H locs cells slots Q (F0 m pc ls st0) := by
  refine va_callv hr hS (fun q _ h => hA q h) hA (fun u' t H1 locs1 ht hvm hw hB hz hk hS1 => ?_)
  subst hw
  rw [ht] at hB
  exact kk H1 locs1 hB hS1
end RD
theorem va_Tw {s : State} {H : Heap} {D : va_G} {cI cB cZ : ClassId} {ws : va_W} {k q n : Nat} {f : Nat → Int32} (hK : va_K D vwCl (tysA cI cB cZ) s) (hP : va_P D vwCl ws H) (he : ws[k]? = some (q, .inl (cI, n, .inl f))) (hn : n < 2 ^ 31) : va_T .int q n (fun j => .int (f j)) (fun _ => False) s H := by
  have h1 : H[q]? = some (vp_cell cI (n, .inl f)) := hP k _ he
  refine ⟨_, h1, (hK.2 0 (cI, .int) rfl).1 n (fun j => .int (f j)), (fun h => by cases h), ?_, ?_, ?_, fun h => h⟩
  · show n ≤ (Array.ofFn (n := n) fun j => Value.int (f j.val)).size
    rw [Array.size_ofFn]; exact Nat.le_refl _
  · show ((Array.ofFn (n := n) fun j => Value.int (f j.val)).size).toInt32 = Int32.ofNat n
    rw [Array.size_ofFn]
  · intro j hj
    show (Array.ofFn (n := n) fun j => Value.int (f j.val))[j]? = some (.int (f j))
    rw [Array.getElem?_ofFn, dif_pos hj]
def CW (cI : ClassId) (ad : Nat → Nat) (τ : Int64) (σ : Sg) : va_W := [(ad 0, .inr (10, [.ref (ad 1), .ref (ad 10), .ref (ad 19), .ref (ad 21), .ref (ad 23), .ref (ad 28), .ref (ad 33), .ref (ad 35), .ref (ad 39), .ref (ad 42), .ref (ad 43), .ref (ad 47)])), (ad 1, .inr (9, [.ref (ad 2), .ref (ad 3), .ref (ad 4), .ref (ad 5), .ref (ad 6), .ref (ad 7), .ref (ad 8), .int (σ 1 7), .int (σ 1 8), .int (σ 1 9)])), (ad 2, .inl (cI, 10, .inl (σ 2))), (ad 3, .inl (cI, 10, .inl (σ 3))), (ad 4, .inl (cI, 8, .inl (σ 4))), (ad 5, .inl (cI, 8, .inl (σ 5))), (ad 6, .inl (cI, 8, .inl (σ 6))), (ad 7, .inl (cI, 6, .inl (σ 7))), (ad 8, .inr (5, [.ref (ad 9)])), (ad 9, .inl (cI, 45, .inl (σ 9))), (ad 10, .inr (9, [.ref (ad 11), .ref (ad 12), .ref (ad 13), .ref (ad 14), .ref (ad 15), .ref (ad 16), .ref (ad 17), .int (σ 10 7), .int (σ 10 8), .int (σ 10 9)])), (ad 11, .inl (cI, 10, .inl (σ 11))), (ad 12, .inl (cI, 10, .inl (σ 12))), (ad 13, .inl (cI, 8, .inl (σ 13))), (ad 14, .inl (cI, 8, .inl (σ 14))), (ad 15, .inl (cI, 8, .inl (σ 15))), (ad 16, .inl (cI, 6, .inl (σ 16))), (ad 17, .inr (5, [.ref (ad 18)])), (ad 18, .inl (cI, 45, .inl (σ 18))), (ad 19, .inr (5, [.ref (ad 20)])), (ad 20, .inl (cI, 45, .inl (σ 20))), (ad 21, .inr (6, [.ref (ad 22), .int (σ 21 1)])), (ad 22, .inl (cI, 450, .inl (σ 22))), (ad 23, .inr (3, [.ref (ad 24), .ref (ad 26), .int (σ 23 2)])), (ad 24, .inr (5, [.ref (ad 25)])), (ad 25, .inl (cI, 45, .inl (σ 25))), (ad 26, .inr (6, [.ref (ad 27), .int (σ 26 1)])), (ad 27, .inl (cI, 450, .inl (σ 27))), (ad 28, .inr (3, [.ref (ad 29), .ref (ad 31), .int (σ 28 2)])), (ad 29, .inr (5, [.ref (ad 30)])), (ad 30, .inl (cI, 45, .inl (σ 30))), (ad 31, .inr (6, [.ref (ad 32), .int (σ 31 1)])), (ad 32, .inl (cI, 450, .inl (σ 32))), (ad 33, .inr (7, [.ref (ad 34), .int (σ 33 1), .int (σ 33 2), .int (σ 33 3), .int (σ 33 4), .int (σ 33 5), .int (σ 33 6)])), (ad 34, .inl (cI, 200, .inl (σ 34))), (ad 35, .inr (8, [.ref (ad 1), .ref (ad 19), .ref (ad 36), .ref (ad 38)])), (ad 36, .inr (5, [.ref (ad 37)])), (ad 37, .inl (cI, 45, .inl (σ 37))), (ad 38, .inl (cI, 10, .inl (σ 38))), (ad 39, .inr (0, [.ref (ad 1), .ref (ad 19), .ref (ad 40), .ref (ad 41)])), (ad 40, .inl (cI, 8, .inl (σ 40))), (ad 41, .inl (cI, 64, .inl (σ 41))), (ad 42, .inr (2, [.ref (ad 1), .ref (ad 19)])), (ad 43, .inr (1, [.ref (ad 1), .ref (ad 19), .ref (ad 44), .ref (ad 45), .ref (ad 46), .int (σ 43 5)])), (ad 44, .inl (cI, 6, .inl (σ 44))), (ad 45, .inl (cI, 6, .inl (σ 45))), (ad 46, .inl (cI, 8, .inl (σ 46))), (ad 47, .inr (4, [.ref (ad 1), .ref (ad 19), .long τ]))]
def cwA (ad : Nat → Nat) : Nat → Prop := fun q => ∃ k : Nat, k < 48 ∧ q = ad k
def cwX (ad : Nat → Nat) : Prop := ∀ i j : Nat, i < 48 → j < 48 → ad i = ad j → i = j
theorem cw_k {cI : ClassId} {ad : Nat → Nat} {τ : Int64} {σ : Sg} : ∀ (k : Nat) (q : Nat × va_E), (CW cI ad τ σ)[k]? = some q → k < 48 ∧ q.1 = ad k := by
  intro k q h
  have hl : k < 48 := by
    have := (List.getElem?_eq_some_iff.mp h).1
    simpa [CW] using this
  refine ⟨hl, ?_⟩
  have hm : (CW cI ad τ σ).map (fun q => q.1) = (List.range 48).map ad := rfl
  have h2 : ((CW cI ad τ σ).map (fun q => q.1))[k]? = some q.1 := by rw [List.getElem?_map, h]; rfl
  rw [hm, List.getElem?_map, List.getElem?_range hl] at h2
  exact (Option.some.inj h2).symm
theorem cw_D {cI : ClassId} {ad : Nat → Nat} {τ : Int64} {σ : Sg} (hap : cwX ad) : va_D (cwA ad) (CW cI ad τ σ) := by
  refine ⟨fun i j p q hi hj hpq => ?_, fun k q hk => ?_⟩
  · obtain ⟨a1, a2⟩ := cw_k i p hi
    obtain ⟨b1, b2⟩ := cw_k j q hj
    exact hap i j a1 b1 (by rw [← a2, ← b2, hpq])
  · obtain ⟨a1, a2⟩ := cw_k k q hk
    exact ⟨k, a1, a2⟩
theorem cw_0 {cI : ClassId} {ad : Nat → Nat} {τ : Int64} {σ : Sg} : (CW cI ad τ σ)[0]? = some (ad 0, .inr (10, [.ref (ad 1), .ref (ad 10), .ref (ad 19), .ref (ad 21), .ref (ad 23), .ref (ad 28), .ref (ad 33), .ref (ad 35), .ref (ad 39), .ref (ad 42), .ref (ad 43), .ref (ad 47)])) := rfl
theorem cw_A0 {ad : Nat → Nat} : ∀ q : Nat, q = ad 0 → cwA ad q := fun q h => ⟨0, by decide, h⟩
theorem cw_r0 {s : State} {H : Heap} {D : va_G} {tys : List (ClassId × FieldType)} {cI : ClassId} {ad : Nat → Nat} {τ : Int64} {σ : Sg} (hK : va_K D vwCl tys s) (hP : va_P D vwCl (CW cI ad τ σ) H) : ∃ cell : Cell, H[ad 0]? = some cell ∧ cell.vm.isStatics = false ∧ s.vm.findClass RX10 = some cell.cls := va_recv hK hP (ci := 10) (q0 := 0) rfl cw_0
theorem cw_1 {cI : ClassId} {ad : Nat → Nat} {τ : Int64} {σ : Sg} : (CW cI ad τ σ)[1]? = some (ad 1, .inr (9, [.ref (ad 2), .ref (ad 3), .ref (ad 4), .ref (ad 5), .ref (ad 6), .ref (ad 7), .ref (ad 8), .int (σ 1 7), .int (σ 1 8), .int (σ 1 9)])) := rfl
theorem cw_A1 {ad : Nat → Nat} : ∀ q : Nat, q = ad 1 → cwA ad q := fun q h => ⟨1, by decide, h⟩
theorem cw_r1 {s : State} {H : Heap} {D : va_G} {tys : List (ClassId × FieldType)} {cI : ClassId} {ad : Nat → Nat} {τ : Int64} {σ : Sg} (hK : va_K D vwCl tys s) (hP : va_P D vwCl (CW cI ad τ σ) H) : ∃ cell : Cell, H[ad 1]? = some cell ∧ cell.vm.isStatics = false ∧ s.vm.findClass RX9 = some cell.cls := va_recv hK hP (ci := 9) (q0 := 1) rfl cw_1
theorem cw_s1_7 {D : va_G} {H : Heap} {cI : ClassId} {ad : Nat → Nat} {τ : Int64} {σ : Sg} {v : Int32} (h : va_P D vwCl ((CW cI ad τ σ).set 1 (ad 1, .inr (9, ([.ref (ad 2), .ref (ad 3), .ref (ad 4), .ref (ad 5), .ref (ad 6), .ref (ad 7), .ref (ad 8), .int (σ 1 7), .int (σ 1 8), .int (σ 1 9)]).set 7 (.int v)))) H) : va_P D vwCl (CW cI ad τ (s1 σ 1 7 v)) H := h
theorem cw_s1_8 {D : va_G} {H : Heap} {cI : ClassId} {ad : Nat → Nat} {τ : Int64} {σ : Sg} {v : Int32} (h : va_P D vwCl ((CW cI ad τ σ).set 1 (ad 1, .inr (9, ([.ref (ad 2), .ref (ad 3), .ref (ad 4), .ref (ad 5), .ref (ad 6), .ref (ad 7), .ref (ad 8), .int (σ 1 7), .int (σ 1 8), .int (σ 1 9)]).set 8 (.int v)))) H) : va_P D vwCl (CW cI ad τ (s1 σ 1 8 v)) H := h
theorem cw_s1_9 {D : va_G} {H : Heap} {cI : ClassId} {ad : Nat → Nat} {τ : Int64} {σ : Sg} {v : Int32} (h : va_P D vwCl ((CW cI ad τ σ).set 1 (ad 1, .inr (9, ([.ref (ad 2), .ref (ad 3), .ref (ad 4), .ref (ad 5), .ref (ad 6), .ref (ad 7), .ref (ad 8), .int (σ 1 7), .int (σ 1 8), .int (σ 1 9)]).set 9 (.int v)))) H) : va_P D vwCl (CW cI ad τ (s1 σ 1 9 v)) H := h
theorem cw_2 {cI : ClassId} {ad : Nat → Nat} {τ : Int64} {σ : Sg} : (CW cI ad τ σ)[2]? = some (ad 2, .inl (cI, 10, .inl (σ 2))) := rfl
theorem cw_A2 {ad : Nat → Nat} : ∀ q : Nat, q = ad 2 → cwA ad q := fun q h => ⟨2, by decide, h⟩
theorem cw_s2 {D : va_G} {H : Heap} {cI : ClassId} {ad : Nat → Nat} {τ : Int64} {σ : Sg} {f : Nat → Int32} (h : va_P D vwCl ((CW cI ad τ σ).set 2 (ad 2, .inl (cI, 10, .inl f))) H) : va_P D vwCl (CW cI ad τ (sA σ 2 f)) H := h
theorem cw_t2 {s : State} {H : Heap} {D : va_G} {cB cZ : ClassId} {cI : ClassId} {ad : Nat → Nat} {τ : Int64} {σ : Sg} (hK : va_K D vwCl (tysA cI cB cZ) s) (hP : va_P D vwCl (CW cI ad τ σ) H) : va_T .int (ad 2) 10 (fun j => .int (σ 2 j)) (fun _ => False) s H := va_Tw hK hP cw_2 (by decide)
theorem cw_3 {cI : ClassId} {ad : Nat → Nat} {τ : Int64} {σ : Sg} : (CW cI ad τ σ)[3]? = some (ad 3, .inl (cI, 10, .inl (σ 3))) := rfl
theorem cw_A3 {ad : Nat → Nat} : ∀ q : Nat, q = ad 3 → cwA ad q := fun q h => ⟨3, by decide, h⟩
theorem cw_s3 {D : va_G} {H : Heap} {cI : ClassId} {ad : Nat → Nat} {τ : Int64} {σ : Sg} {f : Nat → Int32} (h : va_P D vwCl ((CW cI ad τ σ).set 3 (ad 3, .inl (cI, 10, .inl f))) H) : va_P D vwCl (CW cI ad τ (sA σ 3 f)) H := h
theorem cw_t3 {s : State} {H : Heap} {D : va_G} {cB cZ : ClassId} {cI : ClassId} {ad : Nat → Nat} {τ : Int64} {σ : Sg} (hK : va_K D vwCl (tysA cI cB cZ) s) (hP : va_P D vwCl (CW cI ad τ σ) H) : va_T .int (ad 3) 10 (fun j => .int (σ 3 j)) (fun _ => False) s H := va_Tw hK hP cw_3 (by decide)
theorem cw_4 {cI : ClassId} {ad : Nat → Nat} {τ : Int64} {σ : Sg} : (CW cI ad τ σ)[4]? = some (ad 4, .inl (cI, 8, .inl (σ 4))) := rfl
theorem cw_A4 {ad : Nat → Nat} : ∀ q : Nat, q = ad 4 → cwA ad q := fun q h => ⟨4, by decide, h⟩
theorem cw_s4 {D : va_G} {H : Heap} {cI : ClassId} {ad : Nat → Nat} {τ : Int64} {σ : Sg} {f : Nat → Int32} (h : va_P D vwCl ((CW cI ad τ σ).set 4 (ad 4, .inl (cI, 8, .inl f))) H) : va_P D vwCl (CW cI ad τ (sA σ 4 f)) H := h
theorem cw_t4 {s : State} {H : Heap} {D : va_G} {cB cZ : ClassId} {cI : ClassId} {ad : Nat → Nat} {τ : Int64} {σ : Sg} (hK : va_K D vwCl (tysA cI cB cZ) s) (hP : va_P D vwCl (CW cI ad τ σ) H) : va_T .int (ad 4) 8 (fun j => .int (σ 4 j)) (fun _ => False) s H := va_Tw hK hP cw_4 (by decide)
theorem cw_5 {cI : ClassId} {ad : Nat → Nat} {τ : Int64} {σ : Sg} : (CW cI ad τ σ)[5]? = some (ad 5, .inl (cI, 8, .inl (σ 5))) := rfl
theorem cw_A5 {ad : Nat → Nat} : ∀ q : Nat, q = ad 5 → cwA ad q := fun q h => ⟨5, by decide, h⟩
theorem cw_s5 {D : va_G} {H : Heap} {cI : ClassId} {ad : Nat → Nat} {τ : Int64} {σ : Sg} {f : Nat → Int32} (h : va_P D vwCl ((CW cI ad τ σ).set 5 (ad 5, .inl (cI, 8, .inl f))) H) : va_P D vwCl (CW cI ad τ (sA σ 5 f)) H := h
theorem cw_t5 {s : State} {H : Heap} {D : va_G} {cB cZ : ClassId} {cI : ClassId} {ad : Nat → Nat} {τ : Int64} {σ : Sg} (hK : va_K D vwCl (tysA cI cB cZ) s) (hP : va_P D vwCl (CW cI ad τ σ) H) : va_T .int (ad 5) 8 (fun j => .int (σ 5 j)) (fun _ => False) s H := va_Tw hK hP cw_5 (by decide)
theorem cw_6 {cI : ClassId} {ad : Nat → Nat} {τ : Int64} {σ : Sg} : (CW cI ad τ σ)[6]? = some (ad 6, .inl (cI, 8, .inl (σ 6))) := rfl
theorem cw_A6 {ad : Nat → Nat} : ∀ q : Nat, q = ad 6 → cwA ad q := fun q h => ⟨6, by decide, h⟩
theorem cw_s6 {D : va_G} {H : Heap} {cI : ClassId} {ad : Nat → Nat} {τ : Int64} {σ : Sg} {f : Nat → Int32} (h : va_P D vwCl ((CW cI ad τ σ).set 6 (ad 6, .inl (cI, 8, .inl f))) H) : va_P D vwCl (CW cI ad τ (sA σ 6 f)) H := h
theorem cw_t6 {s : State} {H : Heap} {D : va_G} {cB cZ : ClassId} {cI : ClassId} {ad : Nat → Nat} {τ : Int64} {σ : Sg} (hK : va_K D vwCl (tysA cI cB cZ) s) (hP : va_P D vwCl (CW cI ad τ σ) H) : va_T .int (ad 6) 8 (fun j => .int (σ 6 j)) (fun _ => False) s H := va_Tw hK hP cw_6 (by decide)
theorem cw_7 {cI : ClassId} {ad : Nat → Nat} {τ : Int64} {σ : Sg} : (CW cI ad τ σ)[7]? = some (ad 7, .inl (cI, 6, .inl (σ 7))) := rfl
theorem cw_A7 {ad : Nat → Nat} : ∀ q : Nat, q = ad 7 → cwA ad q := fun q h => ⟨7, by decide, h⟩
theorem cw_s7 {D : va_G} {H : Heap} {cI : ClassId} {ad : Nat → Nat} {τ : Int64} {σ : Sg} {f : Nat → Int32} (h : va_P D vwCl ((CW cI ad τ σ).set 7 (ad 7, .inl (cI, 6, .inl f))) H) : va_P D vwCl (CW cI ad τ (sA σ 7 f)) H := h
theorem cw_t7 {s : State} {H : Heap} {D : va_G} {cB cZ : ClassId} {cI : ClassId} {ad : Nat → Nat} {τ : Int64} {σ : Sg} (hK : va_K D vwCl (tysA cI cB cZ) s) (hP : va_P D vwCl (CW cI ad τ σ) H) : va_T .int (ad 7) 6 (fun j => .int (σ 7 j)) (fun _ => False) s H := va_Tw hK hP cw_7 (by decide)
theorem cw_8 {cI : ClassId} {ad : Nat → Nat} {τ : Int64} {σ : Sg} : (CW cI ad τ σ)[8]? = some (ad 8, .inr (5, [.ref (ad 9)])) := rfl
theorem cw_A8 {ad : Nat → Nat} : ∀ q : Nat, q = ad 8 → cwA ad q := fun q h => ⟨8, by decide, h⟩
theorem cw_r8 {s : State} {H : Heap} {D : va_G} {tys : List (ClassId × FieldType)} {cI : ClassId} {ad : Nat → Nat} {τ : Int64} {σ : Sg} (hK : va_K D vwCl tys s) (hP : va_P D vwCl (CW cI ad τ σ) H) : ∃ cell : Cell, H[ad 8]? = some cell ∧ cell.vm.isStatics = false ∧ s.vm.findClass RX5 = some cell.cls := va_recv hK hP (ci := 5) (q0 := 8) rfl cw_8
theorem cw_9 {cI : ClassId} {ad : Nat → Nat} {τ : Int64} {σ : Sg} : (CW cI ad τ σ)[9]? = some (ad 9, .inl (cI, 45, .inl (σ 9))) := rfl
theorem cw_A9 {ad : Nat → Nat} : ∀ q : Nat, q = ad 9 → cwA ad q := fun q h => ⟨9, by decide, h⟩
theorem cw_s9 {D : va_G} {H : Heap} {cI : ClassId} {ad : Nat → Nat} {τ : Int64} {σ : Sg} {f : Nat → Int32} (h : va_P D vwCl ((CW cI ad τ σ).set 9 (ad 9, .inl (cI, 45, .inl f))) H) : va_P D vwCl (CW cI ad τ (sA σ 9 f)) H := h
theorem cw_t9 {s : State} {H : Heap} {D : va_G} {cB cZ : ClassId} {cI : ClassId} {ad : Nat → Nat} {τ : Int64} {σ : Sg} (hK : va_K D vwCl (tysA cI cB cZ) s) (hP : va_P D vwCl (CW cI ad τ σ) H) : va_T .int (ad 9) 45 (fun j => .int (σ 9 j)) (fun _ => False) s H := va_Tw hK hP cw_9 (by decide)
theorem cw_10 {cI : ClassId} {ad : Nat → Nat} {τ : Int64} {σ : Sg} : (CW cI ad τ σ)[10]? = some (ad 10, .inr (9, [.ref (ad 11), .ref (ad 12), .ref (ad 13), .ref (ad 14), .ref (ad 15), .ref (ad 16), .ref (ad 17), .int (σ 10 7), .int (σ 10 8), .int (σ 10 9)])) := rfl
theorem cw_A10 {ad : Nat → Nat} : ∀ q : Nat, q = ad 10 → cwA ad q := fun q h => ⟨10, by decide, h⟩
theorem cw_r10 {s : State} {H : Heap} {D : va_G} {tys : List (ClassId × FieldType)} {cI : ClassId} {ad : Nat → Nat} {τ : Int64} {σ : Sg} (hK : va_K D vwCl tys s) (hP : va_P D vwCl (CW cI ad τ σ) H) : ∃ cell : Cell, H[ad 10]? = some cell ∧ cell.vm.isStatics = false ∧ s.vm.findClass RX9 = some cell.cls := va_recv hK hP (ci := 9) (q0 := 10) rfl cw_10
theorem cw_s10_7 {D : va_G} {H : Heap} {cI : ClassId} {ad : Nat → Nat} {τ : Int64} {σ : Sg} {v : Int32} (h : va_P D vwCl ((CW cI ad τ σ).set 10 (ad 10, .inr (9, ([.ref (ad 11), .ref (ad 12), .ref (ad 13), .ref (ad 14), .ref (ad 15), .ref (ad 16), .ref (ad 17), .int (σ 10 7), .int (σ 10 8), .int (σ 10 9)]).set 7 (.int v)))) H) : va_P D vwCl (CW cI ad τ (s1 σ 10 7 v)) H := h
theorem cw_s10_8 {D : va_G} {H : Heap} {cI : ClassId} {ad : Nat → Nat} {τ : Int64} {σ : Sg} {v : Int32} (h : va_P D vwCl ((CW cI ad τ σ).set 10 (ad 10, .inr (9, ([.ref (ad 11), .ref (ad 12), .ref (ad 13), .ref (ad 14), .ref (ad 15), .ref (ad 16), .ref (ad 17), .int (σ 10 7), .int (σ 10 8), .int (σ 10 9)]).set 8 (.int v)))) H) : va_P D vwCl (CW cI ad τ (s1 σ 10 8 v)) H := h
theorem cw_s10_9 {D : va_G} {H : Heap} {cI : ClassId} {ad : Nat → Nat} {τ : Int64} {σ : Sg} {v : Int32} (h : va_P D vwCl ((CW cI ad τ σ).set 10 (ad 10, .inr (9, ([.ref (ad 11), .ref (ad 12), .ref (ad 13), .ref (ad 14), .ref (ad 15), .ref (ad 16), .ref (ad 17), .int (σ 10 7), .int (σ 10 8), .int (σ 10 9)]).set 9 (.int v)))) H) : va_P D vwCl (CW cI ad τ (s1 σ 10 9 v)) H := h
theorem cw_11 {cI : ClassId} {ad : Nat → Nat} {τ : Int64} {σ : Sg} : (CW cI ad τ σ)[11]? = some (ad 11, .inl (cI, 10, .inl (σ 11))) := rfl
theorem cw_A11 {ad : Nat → Nat} : ∀ q : Nat, q = ad 11 → cwA ad q := fun q h => ⟨11, by decide, h⟩
theorem cw_s11 {D : va_G} {H : Heap} {cI : ClassId} {ad : Nat → Nat} {τ : Int64} {σ : Sg} {f : Nat → Int32} (h : va_P D vwCl ((CW cI ad τ σ).set 11 (ad 11, .inl (cI, 10, .inl f))) H) : va_P D vwCl (CW cI ad τ (sA σ 11 f)) H := h
theorem cw_t11 {s : State} {H : Heap} {D : va_G} {cB cZ : ClassId} {cI : ClassId} {ad : Nat → Nat} {τ : Int64} {σ : Sg} (hK : va_K D vwCl (tysA cI cB cZ) s) (hP : va_P D vwCl (CW cI ad τ σ) H) : va_T .int (ad 11) 10 (fun j => .int (σ 11 j)) (fun _ => False) s H := va_Tw hK hP cw_11 (by decide)
theorem cw_12 {cI : ClassId} {ad : Nat → Nat} {τ : Int64} {σ : Sg} : (CW cI ad τ σ)[12]? = some (ad 12, .inl (cI, 10, .inl (σ 12))) := rfl
theorem cw_A12 {ad : Nat → Nat} : ∀ q : Nat, q = ad 12 → cwA ad q := fun q h => ⟨12, by decide, h⟩
theorem cw_s12 {D : va_G} {H : Heap} {cI : ClassId} {ad : Nat → Nat} {τ : Int64} {σ : Sg} {f : Nat → Int32} (h : va_P D vwCl ((CW cI ad τ σ).set 12 (ad 12, .inl (cI, 10, .inl f))) H) : va_P D vwCl (CW cI ad τ (sA σ 12 f)) H := h
theorem cw_t12 {s : State} {H : Heap} {D : va_G} {cB cZ : ClassId} {cI : ClassId} {ad : Nat → Nat} {τ : Int64} {σ : Sg} (hK : va_K D vwCl (tysA cI cB cZ) s) (hP : va_P D vwCl (CW cI ad τ σ) H) : va_T .int (ad 12) 10 (fun j => .int (σ 12 j)) (fun _ => False) s H := va_Tw hK hP cw_12 (by decide)
theorem cw_13 {cI : ClassId} {ad : Nat → Nat} {τ : Int64} {σ : Sg} : (CW cI ad τ σ)[13]? = some (ad 13, .inl (cI, 8, .inl (σ 13))) := rfl
theorem cw_A13 {ad : Nat → Nat} : ∀ q : Nat, q = ad 13 → cwA ad q := fun q h => ⟨13, by decide, h⟩
theorem cw_s13 {D : va_G} {H : Heap} {cI : ClassId} {ad : Nat → Nat} {τ : Int64} {σ : Sg} {f : Nat → Int32} (h : va_P D vwCl ((CW cI ad τ σ).set 13 (ad 13, .inl (cI, 8, .inl f))) H) : va_P D vwCl (CW cI ad τ (sA σ 13 f)) H := h
theorem cw_t13 {s : State} {H : Heap} {D : va_G} {cB cZ : ClassId} {cI : ClassId} {ad : Nat → Nat} {τ : Int64} {σ : Sg} (hK : va_K D vwCl (tysA cI cB cZ) s) (hP : va_P D vwCl (CW cI ad τ σ) H) : va_T .int (ad 13) 8 (fun j => .int (σ 13 j)) (fun _ => False) s H := va_Tw hK hP cw_13 (by decide)
theorem cw_14 {cI : ClassId} {ad : Nat → Nat} {τ : Int64} {σ : Sg} : (CW cI ad τ σ)[14]? = some (ad 14, .inl (cI, 8, .inl (σ 14))) := rfl
theorem cw_A14 {ad : Nat → Nat} : ∀ q : Nat, q = ad 14 → cwA ad q := fun q h => ⟨14, by decide, h⟩
theorem cw_s14 {D : va_G} {H : Heap} {cI : ClassId} {ad : Nat → Nat} {τ : Int64} {σ : Sg} {f : Nat → Int32} (h : va_P D vwCl ((CW cI ad τ σ).set 14 (ad 14, .inl (cI, 8, .inl f))) H) : va_P D vwCl (CW cI ad τ (sA σ 14 f)) H := h
theorem cw_t14 {s : State} {H : Heap} {D : va_G} {cB cZ : ClassId} {cI : ClassId} {ad : Nat → Nat} {τ : Int64} {σ : Sg} (hK : va_K D vwCl (tysA cI cB cZ) s) (hP : va_P D vwCl (CW cI ad τ σ) H) : va_T .int (ad 14) 8 (fun j => .int (σ 14 j)) (fun _ => False) s H := va_Tw hK hP cw_14 (by decide)
theorem cw_15 {cI : ClassId} {ad : Nat → Nat} {τ : Int64} {σ : Sg} : (CW cI ad τ σ)[15]? = some (ad 15, .inl (cI, 8, .inl (σ 15))) := rfl
theorem cw_A15 {ad : Nat → Nat} : ∀ q : Nat, q = ad 15 → cwA ad q := fun q h => ⟨15, by decide, h⟩
theorem cw_s15 {D : va_G} {H : Heap} {cI : ClassId} {ad : Nat → Nat} {τ : Int64} {σ : Sg} {f : Nat → Int32} (h : va_P D vwCl ((CW cI ad τ σ).set 15 (ad 15, .inl (cI, 8, .inl f))) H) : va_P D vwCl (CW cI ad τ (sA σ 15 f)) H := h
theorem cw_t15 {s : State} {H : Heap} {D : va_G} {cB cZ : ClassId} {cI : ClassId} {ad : Nat → Nat} {τ : Int64} {σ : Sg} (hK : va_K D vwCl (tysA cI cB cZ) s) (hP : va_P D vwCl (CW cI ad τ σ) H) : va_T .int (ad 15) 8 (fun j => .int (σ 15 j)) (fun _ => False) s H := va_Tw hK hP cw_15 (by decide)
theorem cw_16 {cI : ClassId} {ad : Nat → Nat} {τ : Int64} {σ : Sg} : (CW cI ad τ σ)[16]? = some (ad 16, .inl (cI, 6, .inl (σ 16))) := rfl
theorem cw_A16 {ad : Nat → Nat} : ∀ q : Nat, q = ad 16 → cwA ad q := fun q h => ⟨16, by decide, h⟩
theorem cw_s16 {D : va_G} {H : Heap} {cI : ClassId} {ad : Nat → Nat} {τ : Int64} {σ : Sg} {f : Nat → Int32} (h : va_P D vwCl ((CW cI ad τ σ).set 16 (ad 16, .inl (cI, 6, .inl f))) H) : va_P D vwCl (CW cI ad τ (sA σ 16 f)) H := h
theorem cw_t16 {s : State} {H : Heap} {D : va_G} {cB cZ : ClassId} {cI : ClassId} {ad : Nat → Nat} {τ : Int64} {σ : Sg} (hK : va_K D vwCl (tysA cI cB cZ) s) (hP : va_P D vwCl (CW cI ad τ σ) H) : va_T .int (ad 16) 6 (fun j => .int (σ 16 j)) (fun _ => False) s H := va_Tw hK hP cw_16 (by decide)
theorem cw_17 {cI : ClassId} {ad : Nat → Nat} {τ : Int64} {σ : Sg} : (CW cI ad τ σ)[17]? = some (ad 17, .inr (5, [.ref (ad 18)])) := rfl
theorem cw_A17 {ad : Nat → Nat} : ∀ q : Nat, q = ad 17 → cwA ad q := fun q h => ⟨17, by decide, h⟩
theorem cw_r17 {s : State} {H : Heap} {D : va_G} {tys : List (ClassId × FieldType)} {cI : ClassId} {ad : Nat → Nat} {τ : Int64} {σ : Sg} (hK : va_K D vwCl tys s) (hP : va_P D vwCl (CW cI ad τ σ) H) : ∃ cell : Cell, H[ad 17]? = some cell ∧ cell.vm.isStatics = false ∧ s.vm.findClass RX5 = some cell.cls := va_recv hK hP (ci := 5) (q0 := 17) rfl cw_17
theorem cw_18 {cI : ClassId} {ad : Nat → Nat} {τ : Int64} {σ : Sg} : (CW cI ad τ σ)[18]? = some (ad 18, .inl (cI, 45, .inl (σ 18))) := rfl
theorem cw_A18 {ad : Nat → Nat} : ∀ q : Nat, q = ad 18 → cwA ad q := fun q h => ⟨18, by decide, h⟩
theorem cw_s18 {D : va_G} {H : Heap} {cI : ClassId} {ad : Nat → Nat} {τ : Int64} {σ : Sg} {f : Nat → Int32} (h : va_P D vwCl ((CW cI ad τ σ).set 18 (ad 18, .inl (cI, 45, .inl f))) H) : va_P D vwCl (CW cI ad τ (sA σ 18 f)) H := h
theorem cw_t18 {s : State} {H : Heap} {D : va_G} {cB cZ : ClassId} {cI : ClassId} {ad : Nat → Nat} {τ : Int64} {σ : Sg} (hK : va_K D vwCl (tysA cI cB cZ) s) (hP : va_P D vwCl (CW cI ad τ σ) H) : va_T .int (ad 18) 45 (fun j => .int (σ 18 j)) (fun _ => False) s H := va_Tw hK hP cw_18 (by decide)
theorem cw_19 {cI : ClassId} {ad : Nat → Nat} {τ : Int64} {σ : Sg} : (CW cI ad τ σ)[19]? = some (ad 19, .inr (5, [.ref (ad 20)])) := rfl
theorem cw_A19 {ad : Nat → Nat} : ∀ q : Nat, q = ad 19 → cwA ad q := fun q h => ⟨19, by decide, h⟩
theorem cw_r19 {s : State} {H : Heap} {D : va_G} {tys : List (ClassId × FieldType)} {cI : ClassId} {ad : Nat → Nat} {τ : Int64} {σ : Sg} (hK : va_K D vwCl tys s) (hP : va_P D vwCl (CW cI ad τ σ) H) : ∃ cell : Cell, H[ad 19]? = some cell ∧ cell.vm.isStatics = false ∧ s.vm.findClass RX5 = some cell.cls := va_recv hK hP (ci := 5) (q0 := 19) rfl cw_19
theorem cw_20 {cI : ClassId} {ad : Nat → Nat} {τ : Int64} {σ : Sg} : (CW cI ad τ σ)[20]? = some (ad 20, .inl (cI, 45, .inl (σ 20))) := rfl
theorem cw_A20 {ad : Nat → Nat} : ∀ q : Nat, q = ad 20 → cwA ad q := fun q h => ⟨20, by decide, h⟩
theorem cw_s20 {D : va_G} {H : Heap} {cI : ClassId} {ad : Nat → Nat} {τ : Int64} {σ : Sg} {f : Nat → Int32} (h : va_P D vwCl ((CW cI ad τ σ).set 20 (ad 20, .inl (cI, 45, .inl f))) H) : va_P D vwCl (CW cI ad τ (sA σ 20 f)) H := h
theorem cw_t20 {s : State} {H : Heap} {D : va_G} {cB cZ : ClassId} {cI : ClassId} {ad : Nat → Nat} {τ : Int64} {σ : Sg} (hK : va_K D vwCl (tysA cI cB cZ) s) (hP : va_P D vwCl (CW cI ad τ σ) H) : va_T .int (ad 20) 45 (fun j => .int (σ 20 j)) (fun _ => False) s H := va_Tw hK hP cw_20 (by decide)
theorem cw_21 {cI : ClassId} {ad : Nat → Nat} {τ : Int64} {σ : Sg} : (CW cI ad τ σ)[21]? = some (ad 21, .inr (6, [.ref (ad 22), .int (σ 21 1)])) := rfl
theorem cw_A21 {ad : Nat → Nat} : ∀ q : Nat, q = ad 21 → cwA ad q := fun q h => ⟨21, by decide, h⟩
theorem cw_r21 {s : State} {H : Heap} {D : va_G} {tys : List (ClassId × FieldType)} {cI : ClassId} {ad : Nat → Nat} {τ : Int64} {σ : Sg} (hK : va_K D vwCl tys s) (hP : va_P D vwCl (CW cI ad τ σ) H) : ∃ cell : Cell, H[ad 21]? = some cell ∧ cell.vm.isStatics = false ∧ s.vm.findClass RX6 = some cell.cls := va_recv hK hP (ci := 6) (q0 := 21) rfl cw_21
theorem cw_s21_1 {D : va_G} {H : Heap} {cI : ClassId} {ad : Nat → Nat} {τ : Int64} {σ : Sg} {v : Int32} (h : va_P D vwCl ((CW cI ad τ σ).set 21 (ad 21, .inr (6, ([.ref (ad 22), .int (σ 21 1)]).set 1 (.int v)))) H) : va_P D vwCl (CW cI ad τ (s1 σ 21 1 v)) H := h
theorem cw_22 {cI : ClassId} {ad : Nat → Nat} {τ : Int64} {σ : Sg} : (CW cI ad τ σ)[22]? = some (ad 22, .inl (cI, 450, .inl (σ 22))) := rfl
theorem cw_A22 {ad : Nat → Nat} : ∀ q : Nat, q = ad 22 → cwA ad q := fun q h => ⟨22, by decide, h⟩
theorem cw_s22 {D : va_G} {H : Heap} {cI : ClassId} {ad : Nat → Nat} {τ : Int64} {σ : Sg} {f : Nat → Int32} (h : va_P D vwCl ((CW cI ad τ σ).set 22 (ad 22, .inl (cI, 450, .inl f))) H) : va_P D vwCl (CW cI ad τ (sA σ 22 f)) H := h
theorem cw_t22 {s : State} {H : Heap} {D : va_G} {cB cZ : ClassId} {cI : ClassId} {ad : Nat → Nat} {τ : Int64} {σ : Sg} (hK : va_K D vwCl (tysA cI cB cZ) s) (hP : va_P D vwCl (CW cI ad τ σ) H) : va_T .int (ad 22) 450 (fun j => .int (σ 22 j)) (fun _ => False) s H := va_Tw hK hP cw_22 (by decide)
theorem cw_23 {cI : ClassId} {ad : Nat → Nat} {τ : Int64} {σ : Sg} : (CW cI ad τ σ)[23]? = some (ad 23, .inr (3, [.ref (ad 24), .ref (ad 26), .int (σ 23 2)])) := rfl
theorem cw_A23 {ad : Nat → Nat} : ∀ q : Nat, q = ad 23 → cwA ad q := fun q h => ⟨23, by decide, h⟩
theorem cw_r23 {s : State} {H : Heap} {D : va_G} {tys : List (ClassId × FieldType)} {cI : ClassId} {ad : Nat → Nat} {τ : Int64} {σ : Sg} (hK : va_K D vwCl tys s) (hP : va_P D vwCl (CW cI ad τ σ) H) : ∃ cell : Cell, H[ad 23]? = some cell ∧ cell.vm.isStatics = false ∧ s.vm.findClass RX3 = some cell.cls := va_recv hK hP (ci := 3) (q0 := 23) rfl cw_23
theorem cw_s23_2 {D : va_G} {H : Heap} {cI : ClassId} {ad : Nat → Nat} {τ : Int64} {σ : Sg} {v : Int32} (h : va_P D vwCl ((CW cI ad τ σ).set 23 (ad 23, .inr (3, ([.ref (ad 24), .ref (ad 26), .int (σ 23 2)]).set 2 (.int v)))) H) : va_P D vwCl (CW cI ad τ (s1 σ 23 2 v)) H := h
theorem cw_24 {cI : ClassId} {ad : Nat → Nat} {τ : Int64} {σ : Sg} : (CW cI ad τ σ)[24]? = some (ad 24, .inr (5, [.ref (ad 25)])) := rfl
theorem cw_A24 {ad : Nat → Nat} : ∀ q : Nat, q = ad 24 → cwA ad q := fun q h => ⟨24, by decide, h⟩
theorem cw_r24 {s : State} {H : Heap} {D : va_G} {tys : List (ClassId × FieldType)} {cI : ClassId} {ad : Nat → Nat} {τ : Int64} {σ : Sg} (hK : va_K D vwCl tys s) (hP : va_P D vwCl (CW cI ad τ σ) H) : ∃ cell : Cell, H[ad 24]? = some cell ∧ cell.vm.isStatics = false ∧ s.vm.findClass RX5 = some cell.cls := va_recv hK hP (ci := 5) (q0 := 24) rfl cw_24
theorem cw_25 {cI : ClassId} {ad : Nat → Nat} {τ : Int64} {σ : Sg} : (CW cI ad τ σ)[25]? = some (ad 25, .inl (cI, 45, .inl (σ 25))) := rfl
theorem cw_A25 {ad : Nat → Nat} : ∀ q : Nat, q = ad 25 → cwA ad q := fun q h => ⟨25, by decide, h⟩
theorem cw_s25 {D : va_G} {H : Heap} {cI : ClassId} {ad : Nat → Nat} {τ : Int64} {σ : Sg} {f : Nat → Int32} (h : va_P D vwCl ((CW cI ad τ σ).set 25 (ad 25, .inl (cI, 45, .inl f))) H) : va_P D vwCl (CW cI ad τ (sA σ 25 f)) H := h
theorem cw_t25 {s : State} {H : Heap} {D : va_G} {cB cZ : ClassId} {cI : ClassId} {ad : Nat → Nat} {τ : Int64} {σ : Sg} (hK : va_K D vwCl (tysA cI cB cZ) s) (hP : va_P D vwCl (CW cI ad τ σ) H) : va_T .int (ad 25) 45 (fun j => .int (σ 25 j)) (fun _ => False) s H := va_Tw hK hP cw_25 (by decide)
theorem cw_26 {cI : ClassId} {ad : Nat → Nat} {τ : Int64} {σ : Sg} : (CW cI ad τ σ)[26]? = some (ad 26, .inr (6, [.ref (ad 27), .int (σ 26 1)])) := rfl
theorem cw_A26 {ad : Nat → Nat} : ∀ q : Nat, q = ad 26 → cwA ad q := fun q h => ⟨26, by decide, h⟩
theorem cw_r26 {s : State} {H : Heap} {D : va_G} {tys : List (ClassId × FieldType)} {cI : ClassId} {ad : Nat → Nat} {τ : Int64} {σ : Sg} (hK : va_K D vwCl tys s) (hP : va_P D vwCl (CW cI ad τ σ) H) : ∃ cell : Cell, H[ad 26]? = some cell ∧ cell.vm.isStatics = false ∧ s.vm.findClass RX6 = some cell.cls := va_recv hK hP (ci := 6) (q0 := 26) rfl cw_26
theorem cw_s26_1 {D : va_G} {H : Heap} {cI : ClassId} {ad : Nat → Nat} {τ : Int64} {σ : Sg} {v : Int32} (h : va_P D vwCl ((CW cI ad τ σ).set 26 (ad 26, .inr (6, ([.ref (ad 27), .int (σ 26 1)]).set 1 (.int v)))) H) : va_P D vwCl (CW cI ad τ (s1 σ 26 1 v)) H := h
theorem cw_27 {cI : ClassId} {ad : Nat → Nat} {τ : Int64} {σ : Sg} : (CW cI ad τ σ)[27]? = some (ad 27, .inl (cI, 450, .inl (σ 27))) := rfl
theorem cw_A27 {ad : Nat → Nat} : ∀ q : Nat, q = ad 27 → cwA ad q := fun q h => ⟨27, by decide, h⟩
theorem cw_s27 {D : va_G} {H : Heap} {cI : ClassId} {ad : Nat → Nat} {τ : Int64} {σ : Sg} {f : Nat → Int32} (h : va_P D vwCl ((CW cI ad τ σ).set 27 (ad 27, .inl (cI, 450, .inl f))) H) : va_P D vwCl (CW cI ad τ (sA σ 27 f)) H := h
theorem cw_t27 {s : State} {H : Heap} {D : va_G} {cB cZ : ClassId} {cI : ClassId} {ad : Nat → Nat} {τ : Int64} {σ : Sg} (hK : va_K D vwCl (tysA cI cB cZ) s) (hP : va_P D vwCl (CW cI ad τ σ) H) : va_T .int (ad 27) 450 (fun j => .int (σ 27 j)) (fun _ => False) s H := va_Tw hK hP cw_27 (by decide)
theorem cw_28 {cI : ClassId} {ad : Nat → Nat} {τ : Int64} {σ : Sg} : (CW cI ad τ σ)[28]? = some (ad 28, .inr (3, [.ref (ad 29), .ref (ad 31), .int (σ 28 2)])) := rfl
theorem cw_A28 {ad : Nat → Nat} : ∀ q : Nat, q = ad 28 → cwA ad q := fun q h => ⟨28, by decide, h⟩
theorem cw_r28 {s : State} {H : Heap} {D : va_G} {tys : List (ClassId × FieldType)} {cI : ClassId} {ad : Nat → Nat} {τ : Int64} {σ : Sg} (hK : va_K D vwCl tys s) (hP : va_P D vwCl (CW cI ad τ σ) H) : ∃ cell : Cell, H[ad 28]? = some cell ∧ cell.vm.isStatics = false ∧ s.vm.findClass RX3 = some cell.cls := va_recv hK hP (ci := 3) (q0 := 28) rfl cw_28
theorem cw_s28_2 {D : va_G} {H : Heap} {cI : ClassId} {ad : Nat → Nat} {τ : Int64} {σ : Sg} {v : Int32} (h : va_P D vwCl ((CW cI ad τ σ).set 28 (ad 28, .inr (3, ([.ref (ad 29), .ref (ad 31), .int (σ 28 2)]).set 2 (.int v)))) H) : va_P D vwCl (CW cI ad τ (s1 σ 28 2 v)) H := h
theorem cw_29 {cI : ClassId} {ad : Nat → Nat} {τ : Int64} {σ : Sg} : (CW cI ad τ σ)[29]? = some (ad 29, .inr (5, [.ref (ad 30)])) := rfl
theorem cw_A29 {ad : Nat → Nat} : ∀ q : Nat, q = ad 29 → cwA ad q := fun q h => ⟨29, by decide, h⟩
theorem cw_r29 {s : State} {H : Heap} {D : va_G} {tys : List (ClassId × FieldType)} {cI : ClassId} {ad : Nat → Nat} {τ : Int64} {σ : Sg} (hK : va_K D vwCl tys s) (hP : va_P D vwCl (CW cI ad τ σ) H) : ∃ cell : Cell, H[ad 29]? = some cell ∧ cell.vm.isStatics = false ∧ s.vm.findClass RX5 = some cell.cls := va_recv hK hP (ci := 5) (q0 := 29) rfl cw_29
theorem cw_30 {cI : ClassId} {ad : Nat → Nat} {τ : Int64} {σ : Sg} : (CW cI ad τ σ)[30]? = some (ad 30, .inl (cI, 45, .inl (σ 30))) := rfl
theorem cw_A30 {ad : Nat → Nat} : ∀ q : Nat, q = ad 30 → cwA ad q := fun q h => ⟨30, by decide, h⟩
theorem cw_s30 {D : va_G} {H : Heap} {cI : ClassId} {ad : Nat → Nat} {τ : Int64} {σ : Sg} {f : Nat → Int32} (h : va_P D vwCl ((CW cI ad τ σ).set 30 (ad 30, .inl (cI, 45, .inl f))) H) : va_P D vwCl (CW cI ad τ (sA σ 30 f)) H := h
theorem cw_t30 {s : State} {H : Heap} {D : va_G} {cB cZ : ClassId} {cI : ClassId} {ad : Nat → Nat} {τ : Int64} {σ : Sg} (hK : va_K D vwCl (tysA cI cB cZ) s) (hP : va_P D vwCl (CW cI ad τ σ) H) : va_T .int (ad 30) 45 (fun j => .int (σ 30 j)) (fun _ => False) s H := va_Tw hK hP cw_30 (by decide)
theorem cw_31 {cI : ClassId} {ad : Nat → Nat} {τ : Int64} {σ : Sg} : (CW cI ad τ σ)[31]? = some (ad 31, .inr (6, [.ref (ad 32), .int (σ 31 1)])) := rfl
theorem cw_A31 {ad : Nat → Nat} : ∀ q : Nat, q = ad 31 → cwA ad q := fun q h => ⟨31, by decide, h⟩
theorem cw_r31 {s : State} {H : Heap} {D : va_G} {tys : List (ClassId × FieldType)} {cI : ClassId} {ad : Nat → Nat} {τ : Int64} {σ : Sg} (hK : va_K D vwCl tys s) (hP : va_P D vwCl (CW cI ad τ σ) H) : ∃ cell : Cell, H[ad 31]? = some cell ∧ cell.vm.isStatics = false ∧ s.vm.findClass RX6 = some cell.cls := va_recv hK hP (ci := 6) (q0 := 31) rfl cw_31
theorem cw_s31_1 {D : va_G} {H : Heap} {cI : ClassId} {ad : Nat → Nat} {τ : Int64} {σ : Sg} {v : Int32} (h : va_P D vwCl ((CW cI ad τ σ).set 31 (ad 31, .inr (6, ([.ref (ad 32), .int (σ 31 1)]).set 1 (.int v)))) H) : va_P D vwCl (CW cI ad τ (s1 σ 31 1 v)) H := h
theorem cw_32 {cI : ClassId} {ad : Nat → Nat} {τ : Int64} {σ : Sg} : (CW cI ad τ σ)[32]? = some (ad 32, .inl (cI, 450, .inl (σ 32))) := rfl
theorem cw_A32 {ad : Nat → Nat} : ∀ q : Nat, q = ad 32 → cwA ad q := fun q h => ⟨32, by decide, h⟩
theorem cw_s32 {D : va_G} {H : Heap} {cI : ClassId} {ad : Nat → Nat} {τ : Int64} {σ : Sg} {f : Nat → Int32} (h : va_P D vwCl ((CW cI ad τ σ).set 32 (ad 32, .inl (cI, 450, .inl f))) H) : va_P D vwCl (CW cI ad τ (sA σ 32 f)) H := h
theorem cw_t32 {s : State} {H : Heap} {D : va_G} {cB cZ : ClassId} {cI : ClassId} {ad : Nat → Nat} {τ : Int64} {σ : Sg} (hK : va_K D vwCl (tysA cI cB cZ) s) (hP : va_P D vwCl (CW cI ad τ σ) H) : va_T .int (ad 32) 450 (fun j => .int (σ 32 j)) (fun _ => False) s H := va_Tw hK hP cw_32 (by decide)
theorem cw_33 {cI : ClassId} {ad : Nat → Nat} {τ : Int64} {σ : Sg} : (CW cI ad τ σ)[33]? = some (ad 33, .inr (7, [.ref (ad 34), .int (σ 33 1), .int (σ 33 2), .int (σ 33 3), .int (σ 33 4), .int (σ 33 5), .int (σ 33 6)])) := rfl
theorem cw_A33 {ad : Nat → Nat} : ∀ q : Nat, q = ad 33 → cwA ad q := fun q h => ⟨33, by decide, h⟩
theorem cw_r33 {s : State} {H : Heap} {D : va_G} {tys : List (ClassId × FieldType)} {cI : ClassId} {ad : Nat → Nat} {τ : Int64} {σ : Sg} (hK : va_K D vwCl tys s) (hP : va_P D vwCl (CW cI ad τ σ) H) : ∃ cell : Cell, H[ad 33]? = some cell ∧ cell.vm.isStatics = false ∧ s.vm.findClass RX7 = some cell.cls := va_recv hK hP (ci := 7) (q0 := 33) rfl cw_33
theorem cw_s33_1 {D : va_G} {H : Heap} {cI : ClassId} {ad : Nat → Nat} {τ : Int64} {σ : Sg} {v : Int32} (h : va_P D vwCl ((CW cI ad τ σ).set 33 (ad 33, .inr (7, ([.ref (ad 34), .int (σ 33 1), .int (σ 33 2), .int (σ 33 3), .int (σ 33 4), .int (σ 33 5), .int (σ 33 6)]).set 1 (.int v)))) H) : va_P D vwCl (CW cI ad τ (s1 σ 33 1 v)) H := h
theorem cw_s33_2 {D : va_G} {H : Heap} {cI : ClassId} {ad : Nat → Nat} {τ : Int64} {σ : Sg} {v : Int32} (h : va_P D vwCl ((CW cI ad τ σ).set 33 (ad 33, .inr (7, ([.ref (ad 34), .int (σ 33 1), .int (σ 33 2), .int (σ 33 3), .int (σ 33 4), .int (σ 33 5), .int (σ 33 6)]).set 2 (.int v)))) H) : va_P D vwCl (CW cI ad τ (s1 σ 33 2 v)) H := h
theorem cw_s33_3 {D : va_G} {H : Heap} {cI : ClassId} {ad : Nat → Nat} {τ : Int64} {σ : Sg} {v : Int32} (h : va_P D vwCl ((CW cI ad τ σ).set 33 (ad 33, .inr (7, ([.ref (ad 34), .int (σ 33 1), .int (σ 33 2), .int (σ 33 3), .int (σ 33 4), .int (σ 33 5), .int (σ 33 6)]).set 3 (.int v)))) H) : va_P D vwCl (CW cI ad τ (s1 σ 33 3 v)) H := h
theorem cw_s33_4 {D : va_G} {H : Heap} {cI : ClassId} {ad : Nat → Nat} {τ : Int64} {σ : Sg} {v : Int32} (h : va_P D vwCl ((CW cI ad τ σ).set 33 (ad 33, .inr (7, ([.ref (ad 34), .int (σ 33 1), .int (σ 33 2), .int (σ 33 3), .int (σ 33 4), .int (σ 33 5), .int (σ 33 6)]).set 4 (.int v)))) H) : va_P D vwCl (CW cI ad τ (s1 σ 33 4 v)) H := h
theorem cw_s33_5 {D : va_G} {H : Heap} {cI : ClassId} {ad : Nat → Nat} {τ : Int64} {σ : Sg} {v : Int32} (h : va_P D vwCl ((CW cI ad τ σ).set 33 (ad 33, .inr (7, ([.ref (ad 34), .int (σ 33 1), .int (σ 33 2), .int (σ 33 3), .int (σ 33 4), .int (σ 33 5), .int (σ 33 6)]).set 5 (.int v)))) H) : va_P D vwCl (CW cI ad τ (s1 σ 33 5 v)) H := h
theorem cw_s33_6 {D : va_G} {H : Heap} {cI : ClassId} {ad : Nat → Nat} {τ : Int64} {σ : Sg} {v : Int32} (h : va_P D vwCl ((CW cI ad τ σ).set 33 (ad 33, .inr (7, ([.ref (ad 34), .int (σ 33 1), .int (σ 33 2), .int (σ 33 3), .int (σ 33 4), .int (σ 33 5), .int (σ 33 6)]).set 6 (.int v)))) H) : va_P D vwCl (CW cI ad τ (s1 σ 33 6 v)) H := h
theorem cw_34 {cI : ClassId} {ad : Nat → Nat} {τ : Int64} {σ : Sg} : (CW cI ad τ σ)[34]? = some (ad 34, .inl (cI, 200, .inl (σ 34))) := rfl
theorem cw_A34 {ad : Nat → Nat} : ∀ q : Nat, q = ad 34 → cwA ad q := fun q h => ⟨34, by decide, h⟩
theorem cw_s34 {D : va_G} {H : Heap} {cI : ClassId} {ad : Nat → Nat} {τ : Int64} {σ : Sg} {f : Nat → Int32} (h : va_P D vwCl ((CW cI ad τ σ).set 34 (ad 34, .inl (cI, 200, .inl f))) H) : va_P D vwCl (CW cI ad τ (sA σ 34 f)) H := h
theorem cw_t34 {s : State} {H : Heap} {D : va_G} {cB cZ : ClassId} {cI : ClassId} {ad : Nat → Nat} {τ : Int64} {σ : Sg} (hK : va_K D vwCl (tysA cI cB cZ) s) (hP : va_P D vwCl (CW cI ad τ σ) H) : va_T .int (ad 34) 200 (fun j => .int (σ 34 j)) (fun _ => False) s H := va_Tw hK hP cw_34 (by decide)
theorem cw_35 {cI : ClassId} {ad : Nat → Nat} {τ : Int64} {σ : Sg} : (CW cI ad τ σ)[35]? = some (ad 35, .inr (8, [.ref (ad 1), .ref (ad 19), .ref (ad 36), .ref (ad 38)])) := rfl
theorem cw_A35 {ad : Nat → Nat} : ∀ q : Nat, q = ad 35 → cwA ad q := fun q h => ⟨35, by decide, h⟩
theorem cw_r35 {s : State} {H : Heap} {D : va_G} {tys : List (ClassId × FieldType)} {cI : ClassId} {ad : Nat → Nat} {τ : Int64} {σ : Sg} (hK : va_K D vwCl tys s) (hP : va_P D vwCl (CW cI ad τ σ) H) : ∃ cell : Cell, H[ad 35]? = some cell ∧ cell.vm.isStatics = false ∧ s.vm.findClass RX8 = some cell.cls := va_recv hK hP (ci := 8) (q0 := 35) rfl cw_35
theorem cw_36 {cI : ClassId} {ad : Nat → Nat} {τ : Int64} {σ : Sg} : (CW cI ad τ σ)[36]? = some (ad 36, .inr (5, [.ref (ad 37)])) := rfl
theorem cw_A36 {ad : Nat → Nat} : ∀ q : Nat, q = ad 36 → cwA ad q := fun q h => ⟨36, by decide, h⟩
theorem cw_r36 {s : State} {H : Heap} {D : va_G} {tys : List (ClassId × FieldType)} {cI : ClassId} {ad : Nat → Nat} {τ : Int64} {σ : Sg} (hK : va_K D vwCl tys s) (hP : va_P D vwCl (CW cI ad τ σ) H) : ∃ cell : Cell, H[ad 36]? = some cell ∧ cell.vm.isStatics = false ∧ s.vm.findClass RX5 = some cell.cls := va_recv hK hP (ci := 5) (q0 := 36) rfl cw_36
theorem cw_37 {cI : ClassId} {ad : Nat → Nat} {τ : Int64} {σ : Sg} : (CW cI ad τ σ)[37]? = some (ad 37, .inl (cI, 45, .inl (σ 37))) := rfl
theorem cw_A37 {ad : Nat → Nat} : ∀ q : Nat, q = ad 37 → cwA ad q := fun q h => ⟨37, by decide, h⟩
theorem cw_s37 {D : va_G} {H : Heap} {cI : ClassId} {ad : Nat → Nat} {τ : Int64} {σ : Sg} {f : Nat → Int32} (h : va_P D vwCl ((CW cI ad τ σ).set 37 (ad 37, .inl (cI, 45, .inl f))) H) : va_P D vwCl (CW cI ad τ (sA σ 37 f)) H := h
theorem cw_t37 {s : State} {H : Heap} {D : va_G} {cB cZ : ClassId} {cI : ClassId} {ad : Nat → Nat} {τ : Int64} {σ : Sg} (hK : va_K D vwCl (tysA cI cB cZ) s) (hP : va_P D vwCl (CW cI ad τ σ) H) : va_T .int (ad 37) 45 (fun j => .int (σ 37 j)) (fun _ => False) s H := va_Tw hK hP cw_37 (by decide)
theorem cw_38 {cI : ClassId} {ad : Nat → Nat} {τ : Int64} {σ : Sg} : (CW cI ad τ σ)[38]? = some (ad 38, .inl (cI, 10, .inl (σ 38))) := rfl
theorem cw_A38 {ad : Nat → Nat} : ∀ q : Nat, q = ad 38 → cwA ad q := fun q h => ⟨38, by decide, h⟩
theorem cw_s38 {D : va_G} {H : Heap} {cI : ClassId} {ad : Nat → Nat} {τ : Int64} {σ : Sg} {f : Nat → Int32} (h : va_P D vwCl ((CW cI ad τ σ).set 38 (ad 38, .inl (cI, 10, .inl f))) H) : va_P D vwCl (CW cI ad τ (sA σ 38 f)) H := h
theorem cw_t38 {s : State} {H : Heap} {D : va_G} {cB cZ : ClassId} {cI : ClassId} {ad : Nat → Nat} {τ : Int64} {σ : Sg} (hK : va_K D vwCl (tysA cI cB cZ) s) (hP : va_P D vwCl (CW cI ad τ σ) H) : va_T .int (ad 38) 10 (fun j => .int (σ 38 j)) (fun _ => False) s H := va_Tw hK hP cw_38 (by decide)
theorem cw_39 {cI : ClassId} {ad : Nat → Nat} {τ : Int64} {σ : Sg} : (CW cI ad τ σ)[39]? = some (ad 39, .inr (0, [.ref (ad 1), .ref (ad 19), .ref (ad 40), .ref (ad 41)])) := rfl
theorem cw_A39 {ad : Nat → Nat} : ∀ q : Nat, q = ad 39 → cwA ad q := fun q h => ⟨39, by decide, h⟩
theorem cw_r39 {s : State} {H : Heap} {D : va_G} {tys : List (ClassId × FieldType)} {cI : ClassId} {ad : Nat → Nat} {τ : Int64} {σ : Sg} (hK : va_K D vwCl tys s) (hP : va_P D vwCl (CW cI ad τ σ) H) : ∃ cell : Cell, H[ad 39]? = some cell ∧ cell.vm.isStatics = false ∧ s.vm.findClass RX0 = some cell.cls := va_recv hK hP (ci := 0) (q0 := 39) rfl cw_39
theorem cw_40 {cI : ClassId} {ad : Nat → Nat} {τ : Int64} {σ : Sg} : (CW cI ad τ σ)[40]? = some (ad 40, .inl (cI, 8, .inl (σ 40))) := rfl
theorem cw_A40 {ad : Nat → Nat} : ∀ q : Nat, q = ad 40 → cwA ad q := fun q h => ⟨40, by decide, h⟩
theorem cw_s40 {D : va_G} {H : Heap} {cI : ClassId} {ad : Nat → Nat} {τ : Int64} {σ : Sg} {f : Nat → Int32} (h : va_P D vwCl ((CW cI ad τ σ).set 40 (ad 40, .inl (cI, 8, .inl f))) H) : va_P D vwCl (CW cI ad τ (sA σ 40 f)) H := h
theorem cw_t40 {s : State} {H : Heap} {D : va_G} {cB cZ : ClassId} {cI : ClassId} {ad : Nat → Nat} {τ : Int64} {σ : Sg} (hK : va_K D vwCl (tysA cI cB cZ) s) (hP : va_P D vwCl (CW cI ad τ σ) H) : va_T .int (ad 40) 8 (fun j => .int (σ 40 j)) (fun _ => False) s H := va_Tw hK hP cw_40 (by decide)
theorem cw_41 {cI : ClassId} {ad : Nat → Nat} {τ : Int64} {σ : Sg} : (CW cI ad τ σ)[41]? = some (ad 41, .inl (cI, 64, .inl (σ 41))) := rfl
theorem cw_A41 {ad : Nat → Nat} : ∀ q : Nat, q = ad 41 → cwA ad q := fun q h => ⟨41, by decide, h⟩
theorem cw_s41 {D : va_G} {H : Heap} {cI : ClassId} {ad : Nat → Nat} {τ : Int64} {σ : Sg} {f : Nat → Int32} (h : va_P D vwCl ((CW cI ad τ σ).set 41 (ad 41, .inl (cI, 64, .inl f))) H) : va_P D vwCl (CW cI ad τ (sA σ 41 f)) H := h
theorem cw_t41 {s : State} {H : Heap} {D : va_G} {cB cZ : ClassId} {cI : ClassId} {ad : Nat → Nat} {τ : Int64} {σ : Sg} (hK : va_K D vwCl (tysA cI cB cZ) s) (hP : va_P D vwCl (CW cI ad τ σ) H) : va_T .int (ad 41) 64 (fun j => .int (σ 41 j)) (fun _ => False) s H := va_Tw hK hP cw_41 (by decide)
theorem cw_42 {cI : ClassId} {ad : Nat → Nat} {τ : Int64} {σ : Sg} : (CW cI ad τ σ)[42]? = some (ad 42, .inr (2, [.ref (ad 1), .ref (ad 19)])) := rfl
theorem cw_A42 {ad : Nat → Nat} : ∀ q : Nat, q = ad 42 → cwA ad q := fun q h => ⟨42, by decide, h⟩
theorem cw_r42 {s : State} {H : Heap} {D : va_G} {tys : List (ClassId × FieldType)} {cI : ClassId} {ad : Nat → Nat} {τ : Int64} {σ : Sg} (hK : va_K D vwCl tys s) (hP : va_P D vwCl (CW cI ad τ σ) H) : ∃ cell : Cell, H[ad 42]? = some cell ∧ cell.vm.isStatics = false ∧ s.vm.findClass RX2 = some cell.cls := va_recv hK hP (ci := 2) (q0 := 42) rfl cw_42
theorem cw_43 {cI : ClassId} {ad : Nat → Nat} {τ : Int64} {σ : Sg} : (CW cI ad τ σ)[43]? = some (ad 43, .inr (1, [.ref (ad 1), .ref (ad 19), .ref (ad 44), .ref (ad 45), .ref (ad 46), .int (σ 43 5)])) := rfl
theorem cw_A43 {ad : Nat → Nat} : ∀ q : Nat, q = ad 43 → cwA ad q := fun q h => ⟨43, by decide, h⟩
theorem cw_r43 {s : State} {H : Heap} {D : va_G} {tys : List (ClassId × FieldType)} {cI : ClassId} {ad : Nat → Nat} {τ : Int64} {σ : Sg} (hK : va_K D vwCl tys s) (hP : va_P D vwCl (CW cI ad τ σ) H) : ∃ cell : Cell, H[ad 43]? = some cell ∧ cell.vm.isStatics = false ∧ s.vm.findClass RX1 = some cell.cls := va_recv hK hP (ci := 1) (q0 := 43) rfl cw_43
theorem cw_s43_5 {D : va_G} {H : Heap} {cI : ClassId} {ad : Nat → Nat} {τ : Int64} {σ : Sg} {v : Int32} (h : va_P D vwCl ((CW cI ad τ σ).set 43 (ad 43, .inr (1, ([.ref (ad 1), .ref (ad 19), .ref (ad 44), .ref (ad 45), .ref (ad 46), .int (σ 43 5)]).set 5 (.int v)))) H) : va_P D vwCl (CW cI ad τ (s1 σ 43 5 v)) H := h
theorem cw_44 {cI : ClassId} {ad : Nat → Nat} {τ : Int64} {σ : Sg} : (CW cI ad τ σ)[44]? = some (ad 44, .inl (cI, 6, .inl (σ 44))) := rfl
theorem cw_A44 {ad : Nat → Nat} : ∀ q : Nat, q = ad 44 → cwA ad q := fun q h => ⟨44, by decide, h⟩
theorem cw_s44 {D : va_G} {H : Heap} {cI : ClassId} {ad : Nat → Nat} {τ : Int64} {σ : Sg} {f : Nat → Int32} (h : va_P D vwCl ((CW cI ad τ σ).set 44 (ad 44, .inl (cI, 6, .inl f))) H) : va_P D vwCl (CW cI ad τ (sA σ 44 f)) H := h
theorem cw_t44 {s : State} {H : Heap} {D : va_G} {cB cZ : ClassId} {cI : ClassId} {ad : Nat → Nat} {τ : Int64} {σ : Sg} (hK : va_K D vwCl (tysA cI cB cZ) s) (hP : va_P D vwCl (CW cI ad τ σ) H) : va_T .int (ad 44) 6 (fun j => .int (σ 44 j)) (fun _ => False) s H := va_Tw hK hP cw_44 (by decide)
theorem cw_45 {cI : ClassId} {ad : Nat → Nat} {τ : Int64} {σ : Sg} : (CW cI ad τ σ)[45]? = some (ad 45, .inl (cI, 6, .inl (σ 45))) := rfl
theorem cw_A45 {ad : Nat → Nat} : ∀ q : Nat, q = ad 45 → cwA ad q := fun q h => ⟨45, by decide, h⟩
theorem cw_s45 {D : va_G} {H : Heap} {cI : ClassId} {ad : Nat → Nat} {τ : Int64} {σ : Sg} {f : Nat → Int32} (h : va_P D vwCl ((CW cI ad τ σ).set 45 (ad 45, .inl (cI, 6, .inl f))) H) : va_P D vwCl (CW cI ad τ (sA σ 45 f)) H := h
theorem cw_t45 {s : State} {H : Heap} {D : va_G} {cB cZ : ClassId} {cI : ClassId} {ad : Nat → Nat} {τ : Int64} {σ : Sg} (hK : va_K D vwCl (tysA cI cB cZ) s) (hP : va_P D vwCl (CW cI ad τ σ) H) : va_T .int (ad 45) 6 (fun j => .int (σ 45 j)) (fun _ => False) s H := va_Tw hK hP cw_45 (by decide)
theorem cw_46 {cI : ClassId} {ad : Nat → Nat} {τ : Int64} {σ : Sg} : (CW cI ad τ σ)[46]? = some (ad 46, .inl (cI, 8, .inl (σ 46))) := rfl
theorem cw_A46 {ad : Nat → Nat} : ∀ q : Nat, q = ad 46 → cwA ad q := fun q h => ⟨46, by decide, h⟩
theorem cw_s46 {D : va_G} {H : Heap} {cI : ClassId} {ad : Nat → Nat} {τ : Int64} {σ : Sg} {f : Nat → Int32} (h : va_P D vwCl ((CW cI ad τ σ).set 46 (ad 46, .inl (cI, 8, .inl f))) H) : va_P D vwCl (CW cI ad τ (sA σ 46 f)) H := h
theorem cw_t46 {s : State} {H : Heap} {D : va_G} {cB cZ : ClassId} {cI : ClassId} {ad : Nat → Nat} {τ : Int64} {σ : Sg} (hK : va_K D vwCl (tysA cI cB cZ) s) (hP : va_P D vwCl (CW cI ad τ σ) H) : va_T .int (ad 46) 8 (fun j => .int (σ 46 j)) (fun _ => False) s H := va_Tw hK hP cw_46 (by decide)
theorem cw_47 {cI : ClassId} {ad : Nat → Nat} {τ : Int64} {σ : Sg} : (CW cI ad τ σ)[47]? = some (ad 47, .inr (4, [.ref (ad 1), .ref (ad 19), .long τ])) := rfl
theorem cw_A47 {ad : Nat → Nat} : ∀ q : Nat, q = ad 47 → cwA ad q := fun q h => ⟨47, by decide, h⟩
theorem cw_r47 {s : State} {H : Heap} {D : va_G} {tys : List (ClassId × FieldType)} {cI : ClassId} {ad : Nat → Nat} {τ : Int64} {σ : Sg} (hK : va_K D vwCl tys s) (hP : va_P D vwCl (CW cI ad τ σ) H) : ∃ cell : Cell, H[ad 47]? = some cell ∧ cell.vm.isStatics = false ∧ s.vm.findClass RX4 = some cell.cls := va_recv hK hP (ci := 4) (q0 := 47) rfl cw_47
theorem cw_s47_2 {D : va_G} {H : Heap} {cI : ClassId} {ad : Nat → Nat} {τ : Int64} {σ : Sg} {v : Int64} (h : va_P D vwCl ((CW cI ad τ σ).set 47 (ad 47, .inr (4, ([.ref (ad 1), .ref (ad 19), .long τ]).set 2 (.long v)))) H) : va_P D vwCl (CW cI ad v σ) H := h
def MW (cI cB cZ : ClassId) (am : Nat → Nat) (τ : Int64) (σ : Sg) : va_W := [(am 0, .inr (11, [.ref (am 1), .int (σ 0 1), .ref (am 2), .ref (am 3), .ref (am 4), .ref (am 5), .ref (am 6), .ref (am 7), .ref (am 8), .ref (am 9), .ref (am 10), .ref (am 11), .ref (am 12), .int (σ 0 13), .int (σ 0 14), .int (σ 0 15), .int (σ 0 16), .int (σ 0 17), .int (σ 0 18), .ref (am 13), .ref (am 14), .ref (am 15), .ref (am 16), .ref (am 17), .ref (am 18), .ref (am 19), .ref (am 20), .ref (am 21), .int (σ 0 28), .long τ])), (am 1, .inl (cB, 200, .inl (σ 1))), (am 2, .inl (cI, 20, .inl (σ 2))), (am 3, .inl (cI, 20, .inl (σ 3))), (am 4, .inl (cI, 2, .inl (σ 4))), (am 5, .inl (cI, 12, .inl (σ 5))), (am 6, .inl (cI, 12, .inl (σ 6))), (am 7, .inl (cI, 2, .inl (σ 7))), (am 8, .inl (cI, 16, .inl (σ 8))), (am 9, .inl (cI, 16, .inl (σ 9))), (am 10, .inl (cI, 16, .inl (σ 10))), (am 11, .inl (cI, 16, .inl (σ 11))), (am 12, .inl (cI, 16, .inl (σ 12))), (am 13, .inl (cI, 45, .inl (σ 13))), (am 14, .inl (cI, 3, .inl (σ 14))), (am 15, .inl (cI, 1350, .inl (σ 15))), (am 16, .inl (cI, 90, .inl (σ 16))), (am 17, .inl (cZ, 2, .inl (σ 17))), (am 18, .inl (cI, 45, .inl (σ 18))), (am 19, .inl (cZ, 9216, .inl (σ 19))), (am 20, .inl (cI, 6, .inl (σ 20))), (am 21, .inl (cI, 6, .inl (σ 21)))]
def mwA (am : Nat → Nat) : Nat → Prop := fun q => ∃ k : Nat, k < 22 ∧ q = am k
def mwX (am : Nat → Nat) : Prop := ∀ i j : Nat, i < 22 → j < 22 → am i = am j → i = j
theorem mw_k {cI cB cZ : ClassId} {am : Nat → Nat} {τ : Int64} {σ : Sg} : ∀ (k : Nat) (q : Nat × va_E), (MW cI cB cZ am τ σ)[k]? = some q → k < 22 ∧ q.1 = am k := by
  intro k q h
  have hl : k < 22 := by
    have := (List.getElem?_eq_some_iff.mp h).1
    simpa [MW] using this
  refine ⟨hl, ?_⟩
  have hm : (MW cI cB cZ am τ σ).map (fun q => q.1) = (List.range 22).map am := rfl
  have h2 : ((MW cI cB cZ am τ σ).map (fun q => q.1))[k]? = some q.1 := by rw [List.getElem?_map, h]; rfl
  rw [hm, List.getElem?_map, List.getElem?_range hl] at h2
  exact (Option.some.inj h2).symm
theorem mw_D {cI cB cZ : ClassId} {am : Nat → Nat} {τ : Int64} {σ : Sg} (hap : mwX am) : va_D (mwA am) (MW cI cB cZ am τ σ) := by
  refine ⟨fun i j p q hi hj hpq => ?_, fun k q hk => ?_⟩
  · obtain ⟨a1, a2⟩ := mw_k i p hi
    obtain ⟨b1, b2⟩ := mw_k j q hj
    exact hap i j a1 b1 (by rw [← a2, ← b2, hpq])
  · obtain ⟨a1, a2⟩ := mw_k k q hk
    exact ⟨k, a1, a2⟩
theorem mw_0 {cI cB cZ : ClassId} {am : Nat → Nat} {τ : Int64} {σ : Sg} : (MW cI cB cZ am τ σ)[0]? = some (am 0, .inr (11, [.ref (am 1), .int (σ 0 1), .ref (am 2), .ref (am 3), .ref (am 4), .ref (am 5), .ref (am 6), .ref (am 7), .ref (am 8), .ref (am 9), .ref (am 10), .ref (am 11), .ref (am 12), .int (σ 0 13), .int (σ 0 14), .int (σ 0 15), .int (σ 0 16), .int (σ 0 17), .int (σ 0 18), .ref (am 13), .ref (am 14), .ref (am 15), .ref (am 16), .ref (am 17), .ref (am 18), .ref (am 19), .ref (am 20), .ref (am 21), .int (σ 0 28), .long τ])) := rfl
theorem mw_A0 {am : Nat → Nat} : ∀ q : Nat, q = am 0 → mwA am q := fun q h => ⟨0, by decide, h⟩
theorem mw_r0 {s : State} {H : Heap} {D : va_G} {tys : List (ClassId × FieldType)} {cI cB cZ : ClassId} {am : Nat → Nat} {τ : Int64} {σ : Sg} (hK : va_K D vwCl tys s) (hP : va_P D vwCl (MW cI cB cZ am τ σ) H) : ∃ cell : Cell, H[am 0]? = some cell ∧ cell.vm.isStatics = false ∧ s.vm.findClass RX11 = some cell.cls := va_recv hK hP (ci := 11) (q0 := 0) rfl mw_0
theorem mw_s0_1 {D : va_G} {H : Heap} {cI cB cZ : ClassId} {am : Nat → Nat} {τ : Int64} {σ : Sg} {v : Int32} (h : va_P D vwCl ((MW cI cB cZ am τ σ).set 0 (am 0, .inr (11, ([.ref (am 1), .int (σ 0 1), .ref (am 2), .ref (am 3), .ref (am 4), .ref (am 5), .ref (am 6), .ref (am 7), .ref (am 8), .ref (am 9), .ref (am 10), .ref (am 11), .ref (am 12), .int (σ 0 13), .int (σ 0 14), .int (σ 0 15), .int (σ 0 16), .int (σ 0 17), .int (σ 0 18), .ref (am 13), .ref (am 14), .ref (am 15), .ref (am 16), .ref (am 17), .ref (am 18), .ref (am 19), .ref (am 20), .ref (am 21), .int (σ 0 28), .long τ]).set 1 (.int v)))) H) : va_P D vwCl (MW cI cB cZ am τ (s1 σ 0 1 v)) H := h
theorem mw_s0_13 {D : va_G} {H : Heap} {cI cB cZ : ClassId} {am : Nat → Nat} {τ : Int64} {σ : Sg} {v : Int32} (h : va_P D vwCl ((MW cI cB cZ am τ σ).set 0 (am 0, .inr (11, ([.ref (am 1), .int (σ 0 1), .ref (am 2), .ref (am 3), .ref (am 4), .ref (am 5), .ref (am 6), .ref (am 7), .ref (am 8), .ref (am 9), .ref (am 10), .ref (am 11), .ref (am 12), .int (σ 0 13), .int (σ 0 14), .int (σ 0 15), .int (σ 0 16), .int (σ 0 17), .int (σ 0 18), .ref (am 13), .ref (am 14), .ref (am 15), .ref (am 16), .ref (am 17), .ref (am 18), .ref (am 19), .ref (am 20), .ref (am 21), .int (σ 0 28), .long τ]).set 13 (.int v)))) H) : va_P D vwCl (MW cI cB cZ am τ (s1 σ 0 13 v)) H := h
theorem mw_s0_14 {D : va_G} {H : Heap} {cI cB cZ : ClassId} {am : Nat → Nat} {τ : Int64} {σ : Sg} {v : Int32} (h : va_P D vwCl ((MW cI cB cZ am τ σ).set 0 (am 0, .inr (11, ([.ref (am 1), .int (σ 0 1), .ref (am 2), .ref (am 3), .ref (am 4), .ref (am 5), .ref (am 6), .ref (am 7), .ref (am 8), .ref (am 9), .ref (am 10), .ref (am 11), .ref (am 12), .int (σ 0 13), .int (σ 0 14), .int (σ 0 15), .int (σ 0 16), .int (σ 0 17), .int (σ 0 18), .ref (am 13), .ref (am 14), .ref (am 15), .ref (am 16), .ref (am 17), .ref (am 18), .ref (am 19), .ref (am 20), .ref (am 21), .int (σ 0 28), .long τ]).set 14 (.int v)))) H) : va_P D vwCl (MW cI cB cZ am τ (s1 σ 0 14 v)) H := h
theorem mw_s0_15 {D : va_G} {H : Heap} {cI cB cZ : ClassId} {am : Nat → Nat} {τ : Int64} {σ : Sg} {v : Int32} (h : va_P D vwCl ((MW cI cB cZ am τ σ).set 0 (am 0, .inr (11, ([.ref (am 1), .int (σ 0 1), .ref (am 2), .ref (am 3), .ref (am 4), .ref (am 5), .ref (am 6), .ref (am 7), .ref (am 8), .ref (am 9), .ref (am 10), .ref (am 11), .ref (am 12), .int (σ 0 13), .int (σ 0 14), .int (σ 0 15), .int (σ 0 16), .int (σ 0 17), .int (σ 0 18), .ref (am 13), .ref (am 14), .ref (am 15), .ref (am 16), .ref (am 17), .ref (am 18), .ref (am 19), .ref (am 20), .ref (am 21), .int (σ 0 28), .long τ]).set 15 (.int v)))) H) : va_P D vwCl (MW cI cB cZ am τ (s1 σ 0 15 v)) H := h
theorem mw_s0_16 {D : va_G} {H : Heap} {cI cB cZ : ClassId} {am : Nat → Nat} {τ : Int64} {σ : Sg} {v : Int32} (h : va_P D vwCl ((MW cI cB cZ am τ σ).set 0 (am 0, .inr (11, ([.ref (am 1), .int (σ 0 1), .ref (am 2), .ref (am 3), .ref (am 4), .ref (am 5), .ref (am 6), .ref (am 7), .ref (am 8), .ref (am 9), .ref (am 10), .ref (am 11), .ref (am 12), .int (σ 0 13), .int (σ 0 14), .int (σ 0 15), .int (σ 0 16), .int (σ 0 17), .int (σ 0 18), .ref (am 13), .ref (am 14), .ref (am 15), .ref (am 16), .ref (am 17), .ref (am 18), .ref (am 19), .ref (am 20), .ref (am 21), .int (σ 0 28), .long τ]).set 16 (.int v)))) H) : va_P D vwCl (MW cI cB cZ am τ (s1 σ 0 16 v)) H := h
theorem mw_s0_17 {D : va_G} {H : Heap} {cI cB cZ : ClassId} {am : Nat → Nat} {τ : Int64} {σ : Sg} {v : Int32} (h : va_P D vwCl ((MW cI cB cZ am τ σ).set 0 (am 0, .inr (11, ([.ref (am 1), .int (σ 0 1), .ref (am 2), .ref (am 3), .ref (am 4), .ref (am 5), .ref (am 6), .ref (am 7), .ref (am 8), .ref (am 9), .ref (am 10), .ref (am 11), .ref (am 12), .int (σ 0 13), .int (σ 0 14), .int (σ 0 15), .int (σ 0 16), .int (σ 0 17), .int (σ 0 18), .ref (am 13), .ref (am 14), .ref (am 15), .ref (am 16), .ref (am 17), .ref (am 18), .ref (am 19), .ref (am 20), .ref (am 21), .int (σ 0 28), .long τ]).set 17 (.int v)))) H) : va_P D vwCl (MW cI cB cZ am τ (s1 σ 0 17 v)) H := h
theorem mw_s0_18 {D : va_G} {H : Heap} {cI cB cZ : ClassId} {am : Nat → Nat} {τ : Int64} {σ : Sg} {v : Int32} (h : va_P D vwCl ((MW cI cB cZ am τ σ).set 0 (am 0, .inr (11, ([.ref (am 1), .int (σ 0 1), .ref (am 2), .ref (am 3), .ref (am 4), .ref (am 5), .ref (am 6), .ref (am 7), .ref (am 8), .ref (am 9), .ref (am 10), .ref (am 11), .ref (am 12), .int (σ 0 13), .int (σ 0 14), .int (σ 0 15), .int (σ 0 16), .int (σ 0 17), .int (σ 0 18), .ref (am 13), .ref (am 14), .ref (am 15), .ref (am 16), .ref (am 17), .ref (am 18), .ref (am 19), .ref (am 20), .ref (am 21), .int (σ 0 28), .long τ]).set 18 (.int v)))) H) : va_P D vwCl (MW cI cB cZ am τ (s1 σ 0 18 v)) H := h
theorem mw_s0_28 {D : va_G} {H : Heap} {cI cB cZ : ClassId} {am : Nat → Nat} {τ : Int64} {σ : Sg} {v : Int32} (h : va_P D vwCl ((MW cI cB cZ am τ σ).set 0 (am 0, .inr (11, ([.ref (am 1), .int (σ 0 1), .ref (am 2), .ref (am 3), .ref (am 4), .ref (am 5), .ref (am 6), .ref (am 7), .ref (am 8), .ref (am 9), .ref (am 10), .ref (am 11), .ref (am 12), .int (σ 0 13), .int (σ 0 14), .int (σ 0 15), .int (σ 0 16), .int (σ 0 17), .int (σ 0 18), .ref (am 13), .ref (am 14), .ref (am 15), .ref (am 16), .ref (am 17), .ref (am 18), .ref (am 19), .ref (am 20), .ref (am 21), .int (σ 0 28), .long τ]).set 28 (.int v)))) H) : va_P D vwCl (MW cI cB cZ am τ (s1 σ 0 28 v)) H := h
theorem mw_s0_29 {D : va_G} {H : Heap} {cI cB cZ : ClassId} {am : Nat → Nat} {τ : Int64} {σ : Sg} {v : Int64} (h : va_P D vwCl ((MW cI cB cZ am τ σ).set 0 (am 0, .inr (11, ([.ref (am 1), .int (σ 0 1), .ref (am 2), .ref (am 3), .ref (am 4), .ref (am 5), .ref (am 6), .ref (am 7), .ref (am 8), .ref (am 9), .ref (am 10), .ref (am 11), .ref (am 12), .int (σ 0 13), .int (σ 0 14), .int (σ 0 15), .int (σ 0 16), .int (σ 0 17), .int (σ 0 18), .ref (am 13), .ref (am 14), .ref (am 15), .ref (am 16), .ref (am 17), .ref (am 18), .ref (am 19), .ref (am 20), .ref (am 21), .int (σ 0 28), .long τ]).set 29 (.long v)))) H) : va_P D vwCl (MW cI cB cZ am v σ) H := h
theorem mw_1 {cI cB cZ : ClassId} {am : Nat → Nat} {τ : Int64} {σ : Sg} : (MW cI cB cZ am τ σ)[1]? = some (am 1, .inl (cB, 200, .inl (σ 1))) := rfl
theorem mw_A1 {am : Nat → Nat} : ∀ q : Nat, q = am 1 → mwA am q := fun q h => ⟨1, by decide, h⟩
theorem mw_s1 {D : va_G} {H : Heap} {cI cB cZ : ClassId} {am : Nat → Nat} {τ : Int64} {σ : Sg} {f : Nat → Int32} (h : va_P D vwCl ((MW cI cB cZ am τ σ).set 1 (am 1, .inl (cB, 200, .inl f))) H) : va_P D vwCl (MW cI cB cZ am τ (sA σ 1 f)) H := h
theorem mw_2 {cI cB cZ : ClassId} {am : Nat → Nat} {τ : Int64} {σ : Sg} : (MW cI cB cZ am τ σ)[2]? = some (am 2, .inl (cI, 20, .inl (σ 2))) := rfl
theorem mw_A2 {am : Nat → Nat} : ∀ q : Nat, q = am 2 → mwA am q := fun q h => ⟨2, by decide, h⟩
theorem mw_s2 {D : va_G} {H : Heap} {cI cB cZ : ClassId} {am : Nat → Nat} {τ : Int64} {σ : Sg} {f : Nat → Int32} (h : va_P D vwCl ((MW cI cB cZ am τ σ).set 2 (am 2, .inl (cI, 20, .inl f))) H) : va_P D vwCl (MW cI cB cZ am τ (sA σ 2 f)) H := h
theorem mw_t2 {s : State} {H : Heap} {D : va_G} {cB cZ : ClassId} {cI : ClassId} {am : Nat → Nat} {τ : Int64} {σ : Sg} (hK : va_K D vwCl (tysA cI cB cZ) s) (hP : va_P D vwCl (MW cI cB cZ am τ σ) H) : va_T .int (am 2) 20 (fun j => .int (σ 2 j)) (fun _ => False) s H := va_Tw hK hP mw_2 (by decide)
theorem mw_3 {cI cB cZ : ClassId} {am : Nat → Nat} {τ : Int64} {σ : Sg} : (MW cI cB cZ am τ σ)[3]? = some (am 3, .inl (cI, 20, .inl (σ 3))) := rfl
theorem mw_A3 {am : Nat → Nat} : ∀ q : Nat, q = am 3 → mwA am q := fun q h => ⟨3, by decide, h⟩
theorem mw_s3 {D : va_G} {H : Heap} {cI cB cZ : ClassId} {am : Nat → Nat} {τ : Int64} {σ : Sg} {f : Nat → Int32} (h : va_P D vwCl ((MW cI cB cZ am τ σ).set 3 (am 3, .inl (cI, 20, .inl f))) H) : va_P D vwCl (MW cI cB cZ am τ (sA σ 3 f)) H := h
theorem mw_t3 {s : State} {H : Heap} {D : va_G} {cB cZ : ClassId} {cI : ClassId} {am : Nat → Nat} {τ : Int64} {σ : Sg} (hK : va_K D vwCl (tysA cI cB cZ) s) (hP : va_P D vwCl (MW cI cB cZ am τ σ) H) : va_T .int (am 3) 20 (fun j => .int (σ 3 j)) (fun _ => False) s H := va_Tw hK hP mw_3 (by decide)
theorem mw_4 {cI cB cZ : ClassId} {am : Nat → Nat} {τ : Int64} {σ : Sg} : (MW cI cB cZ am τ σ)[4]? = some (am 4, .inl (cI, 2, .inl (σ 4))) := rfl
theorem mw_A4 {am : Nat → Nat} : ∀ q : Nat, q = am 4 → mwA am q := fun q h => ⟨4, by decide, h⟩
theorem mw_s4 {D : va_G} {H : Heap} {cI cB cZ : ClassId} {am : Nat → Nat} {τ : Int64} {σ : Sg} {f : Nat → Int32} (h : va_P D vwCl ((MW cI cB cZ am τ σ).set 4 (am 4, .inl (cI, 2, .inl f))) H) : va_P D vwCl (MW cI cB cZ am τ (sA σ 4 f)) H := h
theorem mw_t4 {s : State} {H : Heap} {D : va_G} {cB cZ : ClassId} {cI : ClassId} {am : Nat → Nat} {τ : Int64} {σ : Sg} (hK : va_K D vwCl (tysA cI cB cZ) s) (hP : va_P D vwCl (MW cI cB cZ am τ σ) H) : va_T .int (am 4) 2 (fun j => .int (σ 4 j)) (fun _ => False) s H := va_Tw hK hP mw_4 (by decide)
theorem mw_5 {cI cB cZ : ClassId} {am : Nat → Nat} {τ : Int64} {σ : Sg} : (MW cI cB cZ am τ σ)[5]? = some (am 5, .inl (cI, 12, .inl (σ 5))) := rfl
theorem mw_A5 {am : Nat → Nat} : ∀ q : Nat, q = am 5 → mwA am q := fun q h => ⟨5, by decide, h⟩
theorem mw_s5 {D : va_G} {H : Heap} {cI cB cZ : ClassId} {am : Nat → Nat} {τ : Int64} {σ : Sg} {f : Nat → Int32} (h : va_P D vwCl ((MW cI cB cZ am τ σ).set 5 (am 5, .inl (cI, 12, .inl f))) H) : va_P D vwCl (MW cI cB cZ am τ (sA σ 5 f)) H := h
theorem mw_t5 {s : State} {H : Heap} {D : va_G} {cB cZ : ClassId} {cI : ClassId} {am : Nat → Nat} {τ : Int64} {σ : Sg} (hK : va_K D vwCl (tysA cI cB cZ) s) (hP : va_P D vwCl (MW cI cB cZ am τ σ) H) : va_T .int (am 5) 12 (fun j => .int (σ 5 j)) (fun _ => False) s H := va_Tw hK hP mw_5 (by decide)
theorem mw_6 {cI cB cZ : ClassId} {am : Nat → Nat} {τ : Int64} {σ : Sg} : (MW cI cB cZ am τ σ)[6]? = some (am 6, .inl (cI, 12, .inl (σ 6))) := rfl
theorem mw_A6 {am : Nat → Nat} : ∀ q : Nat, q = am 6 → mwA am q := fun q h => ⟨6, by decide, h⟩
theorem mw_s6 {D : va_G} {H : Heap} {cI cB cZ : ClassId} {am : Nat → Nat} {τ : Int64} {σ : Sg} {f : Nat → Int32} (h : va_P D vwCl ((MW cI cB cZ am τ σ).set 6 (am 6, .inl (cI, 12, .inl f))) H) : va_P D vwCl (MW cI cB cZ am τ (sA σ 6 f)) H := h
theorem mw_t6 {s : State} {H : Heap} {D : va_G} {cB cZ : ClassId} {cI : ClassId} {am : Nat → Nat} {τ : Int64} {σ : Sg} (hK : va_K D vwCl (tysA cI cB cZ) s) (hP : va_P D vwCl (MW cI cB cZ am τ σ) H) : va_T .int (am 6) 12 (fun j => .int (σ 6 j)) (fun _ => False) s H := va_Tw hK hP mw_6 (by decide)
theorem mw_7 {cI cB cZ : ClassId} {am : Nat → Nat} {τ : Int64} {σ : Sg} : (MW cI cB cZ am τ σ)[7]? = some (am 7, .inl (cI, 2, .inl (σ 7))) := rfl
theorem mw_A7 {am : Nat → Nat} : ∀ q : Nat, q = am 7 → mwA am q := fun q h => ⟨7, by decide, h⟩
theorem mw_s7 {D : va_G} {H : Heap} {cI cB cZ : ClassId} {am : Nat → Nat} {τ : Int64} {σ : Sg} {f : Nat → Int32} (h : va_P D vwCl ((MW cI cB cZ am τ σ).set 7 (am 7, .inl (cI, 2, .inl f))) H) : va_P D vwCl (MW cI cB cZ am τ (sA σ 7 f)) H := h
theorem mw_t7 {s : State} {H : Heap} {D : va_G} {cB cZ : ClassId} {cI : ClassId} {am : Nat → Nat} {τ : Int64} {σ : Sg} (hK : va_K D vwCl (tysA cI cB cZ) s) (hP : va_P D vwCl (MW cI cB cZ am τ σ) H) : va_T .int (am 7) 2 (fun j => .int (σ 7 j)) (fun _ => False) s H := va_Tw hK hP mw_7 (by decide)
theorem mw_8 {cI cB cZ : ClassId} {am : Nat → Nat} {τ : Int64} {σ : Sg} : (MW cI cB cZ am τ σ)[8]? = some (am 8, .inl (cI, 16, .inl (σ 8))) := rfl
theorem mw_A8 {am : Nat → Nat} : ∀ q : Nat, q = am 8 → mwA am q := fun q h => ⟨8, by decide, h⟩
theorem mw_s8 {D : va_G} {H : Heap} {cI cB cZ : ClassId} {am : Nat → Nat} {τ : Int64} {σ : Sg} {f : Nat → Int32} (h : va_P D vwCl ((MW cI cB cZ am τ σ).set 8 (am 8, .inl (cI, 16, .inl f))) H) : va_P D vwCl (MW cI cB cZ am τ (sA σ 8 f)) H := h
theorem mw_t8 {s : State} {H : Heap} {D : va_G} {cB cZ : ClassId} {cI : ClassId} {am : Nat → Nat} {τ : Int64} {σ : Sg} (hK : va_K D vwCl (tysA cI cB cZ) s) (hP : va_P D vwCl (MW cI cB cZ am τ σ) H) : va_T .int (am 8) 16 (fun j => .int (σ 8 j)) (fun _ => False) s H := va_Tw hK hP mw_8 (by decide)
theorem mw_9 {cI cB cZ : ClassId} {am : Nat → Nat} {τ : Int64} {σ : Sg} : (MW cI cB cZ am τ σ)[9]? = some (am 9, .inl (cI, 16, .inl (σ 9))) := rfl
theorem mw_A9 {am : Nat → Nat} : ∀ q : Nat, q = am 9 → mwA am q := fun q h => ⟨9, by decide, h⟩
theorem mw_s9 {D : va_G} {H : Heap} {cI cB cZ : ClassId} {am : Nat → Nat} {τ : Int64} {σ : Sg} {f : Nat → Int32} (h : va_P D vwCl ((MW cI cB cZ am τ σ).set 9 (am 9, .inl (cI, 16, .inl f))) H) : va_P D vwCl (MW cI cB cZ am τ (sA σ 9 f)) H := h
theorem mw_t9 {s : State} {H : Heap} {D : va_G} {cB cZ : ClassId} {cI : ClassId} {am : Nat → Nat} {τ : Int64} {σ : Sg} (hK : va_K D vwCl (tysA cI cB cZ) s) (hP : va_P D vwCl (MW cI cB cZ am τ σ) H) : va_T .int (am 9) 16 (fun j => .int (σ 9 j)) (fun _ => False) s H := va_Tw hK hP mw_9 (by decide)
theorem mw_10 {cI cB cZ : ClassId} {am : Nat → Nat} {τ : Int64} {σ : Sg} : (MW cI cB cZ am τ σ)[10]? = some (am 10, .inl (cI, 16, .inl (σ 10))) := rfl
theorem mw_A10 {am : Nat → Nat} : ∀ q : Nat, q = am 10 → mwA am q := fun q h => ⟨10, by decide, h⟩
theorem mw_s10 {D : va_G} {H : Heap} {cI cB cZ : ClassId} {am : Nat → Nat} {τ : Int64} {σ : Sg} {f : Nat → Int32} (h : va_P D vwCl ((MW cI cB cZ am τ σ).set 10 (am 10, .inl (cI, 16, .inl f))) H) : va_P D vwCl (MW cI cB cZ am τ (sA σ 10 f)) H := h
theorem mw_t10 {s : State} {H : Heap} {D : va_G} {cB cZ : ClassId} {cI : ClassId} {am : Nat → Nat} {τ : Int64} {σ : Sg} (hK : va_K D vwCl (tysA cI cB cZ) s) (hP : va_P D vwCl (MW cI cB cZ am τ σ) H) : va_T .int (am 10) 16 (fun j => .int (σ 10 j)) (fun _ => False) s H := va_Tw hK hP mw_10 (by decide)
theorem mw_11 {cI cB cZ : ClassId} {am : Nat → Nat} {τ : Int64} {σ : Sg} : (MW cI cB cZ am τ σ)[11]? = some (am 11, .inl (cI, 16, .inl (σ 11))) := rfl
theorem mw_A11 {am : Nat → Nat} : ∀ q : Nat, q = am 11 → mwA am q := fun q h => ⟨11, by decide, h⟩
theorem mw_s11 {D : va_G} {H : Heap} {cI cB cZ : ClassId} {am : Nat → Nat} {τ : Int64} {σ : Sg} {f : Nat → Int32} (h : va_P D vwCl ((MW cI cB cZ am τ σ).set 11 (am 11, .inl (cI, 16, .inl f))) H) : va_P D vwCl (MW cI cB cZ am τ (sA σ 11 f)) H := h
theorem mw_t11 {s : State} {H : Heap} {D : va_G} {cB cZ : ClassId} {cI : ClassId} {am : Nat → Nat} {τ : Int64} {σ : Sg} (hK : va_K D vwCl (tysA cI cB cZ) s) (hP : va_P D vwCl (MW cI cB cZ am τ σ) H) : va_T .int (am 11) 16 (fun j => .int (σ 11 j)) (fun _ => False) s H := va_Tw hK hP mw_11 (by decide)
theorem mw_12 {cI cB cZ : ClassId} {am : Nat → Nat} {τ : Int64} {σ : Sg} : (MW cI cB cZ am τ σ)[12]? = some (am 12, .inl (cI, 16, .inl (σ 12))) := rfl
theorem mw_A12 {am : Nat → Nat} : ∀ q : Nat, q = am 12 → mwA am q := fun q h => ⟨12, by decide, h⟩
theorem mw_s12 {D : va_G} {H : Heap} {cI cB cZ : ClassId} {am : Nat → Nat} {τ : Int64} {σ : Sg} {f : Nat → Int32} (h : va_P D vwCl ((MW cI cB cZ am τ σ).set 12 (am 12, .inl (cI, 16, .inl f))) H) : va_P D vwCl (MW cI cB cZ am τ (sA σ 12 f)) H := h
theorem mw_t12 {s : State} {H : Heap} {D : va_G} {cB cZ : ClassId} {cI : ClassId} {am : Nat → Nat} {τ : Int64} {σ : Sg} (hK : va_K D vwCl (tysA cI cB cZ) s) (hP : va_P D vwCl (MW cI cB cZ am τ σ) H) : va_T .int (am 12) 16 (fun j => .int (σ 12 j)) (fun _ => False) s H := va_Tw hK hP mw_12 (by decide)
theorem mw_13 {cI cB cZ : ClassId} {am : Nat → Nat} {τ : Int64} {σ : Sg} : (MW cI cB cZ am τ σ)[13]? = some (am 13, .inl (cI, 45, .inl (σ 13))) := rfl
theorem mw_A13 {am : Nat → Nat} : ∀ q : Nat, q = am 13 → mwA am q := fun q h => ⟨13, by decide, h⟩
theorem mw_s13 {D : va_G} {H : Heap} {cI cB cZ : ClassId} {am : Nat → Nat} {τ : Int64} {σ : Sg} {f : Nat → Int32} (h : va_P D vwCl ((MW cI cB cZ am τ σ).set 13 (am 13, .inl (cI, 45, .inl f))) H) : va_P D vwCl (MW cI cB cZ am τ (sA σ 13 f)) H := h
theorem mw_t13 {s : State} {H : Heap} {D : va_G} {cB cZ : ClassId} {cI : ClassId} {am : Nat → Nat} {τ : Int64} {σ : Sg} (hK : va_K D vwCl (tysA cI cB cZ) s) (hP : va_P D vwCl (MW cI cB cZ am τ σ) H) : va_T .int (am 13) 45 (fun j => .int (σ 13 j)) (fun _ => False) s H := va_Tw hK hP mw_13 (by decide)
theorem mw_14 {cI cB cZ : ClassId} {am : Nat → Nat} {τ : Int64} {σ : Sg} : (MW cI cB cZ am τ σ)[14]? = some (am 14, .inl (cI, 3, .inl (σ 14))) := rfl
theorem mw_A14 {am : Nat → Nat} : ∀ q : Nat, q = am 14 → mwA am q := fun q h => ⟨14, by decide, h⟩
theorem mw_s14 {D : va_G} {H : Heap} {cI cB cZ : ClassId} {am : Nat → Nat} {τ : Int64} {σ : Sg} {f : Nat → Int32} (h : va_P D vwCl ((MW cI cB cZ am τ σ).set 14 (am 14, .inl (cI, 3, .inl f))) H) : va_P D vwCl (MW cI cB cZ am τ (sA σ 14 f)) H := h
theorem mw_t14 {s : State} {H : Heap} {D : va_G} {cB cZ : ClassId} {cI : ClassId} {am : Nat → Nat} {τ : Int64} {σ : Sg} (hK : va_K D vwCl (tysA cI cB cZ) s) (hP : va_P D vwCl (MW cI cB cZ am τ σ) H) : va_T .int (am 14) 3 (fun j => .int (σ 14 j)) (fun _ => False) s H := va_Tw hK hP mw_14 (by decide)
theorem mw_15 {cI cB cZ : ClassId} {am : Nat → Nat} {τ : Int64} {σ : Sg} : (MW cI cB cZ am τ σ)[15]? = some (am 15, .inl (cI, 1350, .inl (σ 15))) := rfl
theorem mw_A15 {am : Nat → Nat} : ∀ q : Nat, q = am 15 → mwA am q := fun q h => ⟨15, by decide, h⟩
theorem mw_s15 {D : va_G} {H : Heap} {cI cB cZ : ClassId} {am : Nat → Nat} {τ : Int64} {σ : Sg} {f : Nat → Int32} (h : va_P D vwCl ((MW cI cB cZ am τ σ).set 15 (am 15, .inl (cI, 1350, .inl f))) H) : va_P D vwCl (MW cI cB cZ am τ (sA σ 15 f)) H := h
theorem mw_t15 {s : State} {H : Heap} {D : va_G} {cB cZ : ClassId} {cI : ClassId} {am : Nat → Nat} {τ : Int64} {σ : Sg} (hK : va_K D vwCl (tysA cI cB cZ) s) (hP : va_P D vwCl (MW cI cB cZ am τ σ) H) : va_T .int (am 15) 1350 (fun j => .int (σ 15 j)) (fun _ => False) s H := va_Tw hK hP mw_15 (by decide)
theorem mw_16 {cI cB cZ : ClassId} {am : Nat → Nat} {τ : Int64} {σ : Sg} : (MW cI cB cZ am τ σ)[16]? = some (am 16, .inl (cI, 90, .inl (σ 16))) := rfl
theorem mw_A16 {am : Nat → Nat} : ∀ q : Nat, q = am 16 → mwA am q := fun q h => ⟨16, by decide, h⟩
theorem mw_s16 {D : va_G} {H : Heap} {cI cB cZ : ClassId} {am : Nat → Nat} {τ : Int64} {σ : Sg} {f : Nat → Int32} (h : va_P D vwCl ((MW cI cB cZ am τ σ).set 16 (am 16, .inl (cI, 90, .inl f))) H) : va_P D vwCl (MW cI cB cZ am τ (sA σ 16 f)) H := h
theorem mw_t16 {s : State} {H : Heap} {D : va_G} {cB cZ : ClassId} {cI : ClassId} {am : Nat → Nat} {τ : Int64} {σ : Sg} (hK : va_K D vwCl (tysA cI cB cZ) s) (hP : va_P D vwCl (MW cI cB cZ am τ σ) H) : va_T .int (am 16) 90 (fun j => .int (σ 16 j)) (fun _ => False) s H := va_Tw hK hP mw_16 (by decide)
theorem mw_17 {cI cB cZ : ClassId} {am : Nat → Nat} {τ : Int64} {σ : Sg} : (MW cI cB cZ am τ σ)[17]? = some (am 17, .inl (cZ, 2, .inl (σ 17))) := rfl
theorem mw_A17 {am : Nat → Nat} : ∀ q : Nat, q = am 17 → mwA am q := fun q h => ⟨17, by decide, h⟩
theorem mw_s17 {D : va_G} {H : Heap} {cI cB cZ : ClassId} {am : Nat → Nat} {τ : Int64} {σ : Sg} {f : Nat → Int32} (h : va_P D vwCl ((MW cI cB cZ am τ σ).set 17 (am 17, .inl (cZ, 2, .inl f))) H) : va_P D vwCl (MW cI cB cZ am τ (sA σ 17 f)) H := h
theorem mw_18 {cI cB cZ : ClassId} {am : Nat → Nat} {τ : Int64} {σ : Sg} : (MW cI cB cZ am τ σ)[18]? = some (am 18, .inl (cI, 45, .inl (σ 18))) := rfl
theorem mw_A18 {am : Nat → Nat} : ∀ q : Nat, q = am 18 → mwA am q := fun q h => ⟨18, by decide, h⟩
theorem mw_s18 {D : va_G} {H : Heap} {cI cB cZ : ClassId} {am : Nat → Nat} {τ : Int64} {σ : Sg} {f : Nat → Int32} (h : va_P D vwCl ((MW cI cB cZ am τ σ).set 18 (am 18, .inl (cI, 45, .inl f))) H) : va_P D vwCl (MW cI cB cZ am τ (sA σ 18 f)) H := h
theorem mw_t18 {s : State} {H : Heap} {D : va_G} {cB cZ : ClassId} {cI : ClassId} {am : Nat → Nat} {τ : Int64} {σ : Sg} (hK : va_K D vwCl (tysA cI cB cZ) s) (hP : va_P D vwCl (MW cI cB cZ am τ σ) H) : va_T .int (am 18) 45 (fun j => .int (σ 18 j)) (fun _ => False) s H := va_Tw hK hP mw_18 (by decide)
theorem mw_19 {cI cB cZ : ClassId} {am : Nat → Nat} {τ : Int64} {σ : Sg} : (MW cI cB cZ am τ σ)[19]? = some (am 19, .inl (cZ, 9216, .inl (σ 19))) := rfl
theorem mw_A19 {am : Nat → Nat} : ∀ q : Nat, q = am 19 → mwA am q := fun q h => ⟨19, by decide, h⟩
theorem mw_s19 {D : va_G} {H : Heap} {cI cB cZ : ClassId} {am : Nat → Nat} {τ : Int64} {σ : Sg} {f : Nat → Int32} (h : va_P D vwCl ((MW cI cB cZ am τ σ).set 19 (am 19, .inl (cZ, 9216, .inl f))) H) : va_P D vwCl (MW cI cB cZ am τ (sA σ 19 f)) H := h
theorem mw_20 {cI cB cZ : ClassId} {am : Nat → Nat} {τ : Int64} {σ : Sg} : (MW cI cB cZ am τ σ)[20]? = some (am 20, .inl (cI, 6, .inl (σ 20))) := rfl
theorem mw_A20 {am : Nat → Nat} : ∀ q : Nat, q = am 20 → mwA am q := fun q h => ⟨20, by decide, h⟩
theorem mw_s20 {D : va_G} {H : Heap} {cI cB cZ : ClassId} {am : Nat → Nat} {τ : Int64} {σ : Sg} {f : Nat → Int32} (h : va_P D vwCl ((MW cI cB cZ am τ σ).set 20 (am 20, .inl (cI, 6, .inl f))) H) : va_P D vwCl (MW cI cB cZ am τ (sA σ 20 f)) H := h
theorem mw_t20 {s : State} {H : Heap} {D : va_G} {cB cZ : ClassId} {cI : ClassId} {am : Nat → Nat} {τ : Int64} {σ : Sg} (hK : va_K D vwCl (tysA cI cB cZ) s) (hP : va_P D vwCl (MW cI cB cZ am τ σ) H) : va_T .int (am 20) 6 (fun j => .int (σ 20 j)) (fun _ => False) s H := va_Tw hK hP mw_20 (by decide)
theorem mw_21 {cI cB cZ : ClassId} {am : Nat → Nat} {τ : Int64} {σ : Sg} : (MW cI cB cZ am τ σ)[21]? = some (am 21, .inl (cI, 6, .inl (σ 21))) := rfl
theorem mw_A21 {am : Nat → Nat} : ∀ q : Nat, q = am 21 → mwA am q := fun q h => ⟨21, by decide, h⟩
theorem mw_s21 {D : va_G} {H : Heap} {cI cB cZ : ClassId} {am : Nat → Nat} {τ : Int64} {σ : Sg} {f : Nat → Int32} (h : va_P D vwCl ((MW cI cB cZ am τ σ).set 21 (am 21, .inl (cI, 6, .inl f))) H) : va_P D vwCl (MW cI cB cZ am τ (sA σ 21 f)) H := h
theorem mw_t21 {s : State} {H : Heap} {D : va_G} {cB cZ : ClassId} {cI : ClassId} {am : Nat → Nat} {τ : Int64} {σ : Sg} (hK : va_K D vwCl (tysA cI cB cZ) s) (hP : va_P D vwCl (MW cI cB cZ am τ σ) H) : va_T .int (am 21) 6 (fun j => .int (σ 21 j)) (fun _ => False) s H := va_Tw hK hP mw_21 (by decide)
