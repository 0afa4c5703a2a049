theorem dX7_count_118 : decode cX7_count 118 = .ok (.aload_n 0, 1) := by decide +kernel
theorem dX7_count_119 : decode cX7_count 119 = .ok (.getfield 19, 3) := by decide +kernel
theorem dX7_count_122 : decode cX7_count 122 = .ok (.getfield 138, 3) := by decide +kernel
theorem dX7_count_125 : decode cX7_count 125 = .ok (.ireturn, 1) := by decide +kernel
theorem dX7_count_126 : decode cX7_count 126 = .ok (.aload_n 0, 1) := by decide +kernel
theorem dX7_count_127 : decode cX7_count 127 = .ok (.getfield 26, 3) := by decide +kernel
theorem dX7_count_130 : decode cX7_count 130 = .ok (.getfield 154, 3) := by decide +kernel
theorem dX7_count_133 : decode cX7_count 133 = .ok (.ireturn, 1) := by decide +kernel
theorem dX7_count_134 : decode cX7_count 134 = .ok (.aload_n 0, 1) := by decide +kernel
theorem dX7_count_135 : decode cX7_count 135 = .ok (.getfield 10, 3) := by decide +kernel
theorem dX7_count_138 : decode cX7_count 138 = .ok (.getfield 63, 3) := by decide +kernel
theorem dX7_count_141 : decode cX7_count 141 = .ok (.ireturn, 1) := by decide +kernel
theorem dX7_count_142 : decode cX7_count 142 = .ok (.iconst (-1), 1) := by decide +kernel
theorem dX7_count_143 : decode cX7_count 143 = .ok (.ireturn, 1) := by decide +kernel
theorem dX7_placeOfFrames_0 : decode cX7_placeOfFrames 0 = .ok (.iload_n 1, 1) := by decide +kernel
theorem dX7_placeOfFrames_1 : decode cX7_placeOfFrames 1 = .ok (.ifCond .lt 23, 3) := by decide +kernel
theorem dX7_placeOfFrames_4 : decode cX7_placeOfFrames 4 = .ok (.iload_n 1, 1) := by decide +kernel
theorem dX7_placeOfFrames_5 : decode cX7_placeOfFrames 5 = .ok (.iconst 1, 1) := by decide +kernel
theorem dX7_placeOfFrames_6 : decode cX7_placeOfFrames 6 = .ok (.if_icmp .gt 18, 3) := by decide +kernel
theorem dX7_placeOfFrames_9 : decode cX7_placeOfFrames 9 = .ok (.iload_n 2, 1) := by decide +kernel
theorem dX7_placeOfFrames_10 : decode cX7_placeOfFrames 10 = .ok (.ifCond .lt 14, 3) := by decide +kernel
theorem dX7_placeOfFrames_13 : decode cX7_placeOfFrames 13 = .ok (.iload_n 2, 1) := by decide +kernel
theorem dX7_placeOfFrames_14 : decode cX7_placeOfFrames 14 = .ok (.aload_n 0, 1) := by decide +kernel
theorem dX7_placeOfFrames_15 : decode cX7_placeOfFrames 15 = .ok (.getfield 19, 3) := by decide +kernel
theorem dX7_placeOfFrames_18 : decode cX7_placeOfFrames 18 = .ok (.getfield 75, 3) := by decide +kernel
theorem dX7_placeOfFrames_21 : decode cX7_placeOfFrames 21 = .ok (.if_icmp .lt 6, 3) := by decide +kernel
theorem dX7_placeOfFrames_24 : decode cX7_placeOfFrames 24 = .ok (.bipush (-4), 2) := by decide +kernel
theorem dX7_placeOfFrames_26 : decode cX7_placeOfFrames 26 = .ok (.ireturn, 1) := by decide +kernel
theorem dX7_placeOfFrames_27 : decode cX7_placeOfFrames 27 = .ok (.iload_n 1, 1) := by decide +kernel
theorem dX7_placeOfFrames_28 : decode cX7_placeOfFrames 28 = .ok (.bipush 6, 2) := by decide +kernel
theorem dX7_placeOfFrames_30 : decode cX7_placeOfFrames 30 = .ok (.imul, 1) := by decide +kernel
theorem dX7_placeOfFrames_31 : decode cX7_placeOfFrames 31 = .ok (.iload_n 2, 1) := by decide +kernel
theorem dX7_placeOfFrames_32 : decode cX7_placeOfFrames 32 = .ok (.iadd, 1) := by decide +kernel
theorem dX7_placeOfFrames_33 : decode cX7_placeOfFrames 33 = .ok (.istore_n 3, 1) := by decide +kernel
theorem dX7_placeOfFrames_34 : decode cX7_placeOfFrames 34 = .ok (.iload_n 3, 1) := by decide +kernel
theorem dX7_placeOfFrames_35 : decode cX7_placeOfFrames 35 = .ok (.aload_n 0, 1) := by decide +kernel
theorem dX7_placeOfFrames_36 : decode cX7_placeOfFrames 36 = .ok (.getfield 30, 3) := by decide +kernel
theorem dX7_placeOfFrames_39 : decode cX7_placeOfFrames 39 = .ok (.arraylength, 1) := by decide +kernel
theorem dX7_placeOfFrames_40 : decode cX7_placeOfFrames 40 = .ok (.if_icmp .ge 7, 3) := by decide +kernel
theorem dX7_placeOfFrames_43 : decode cX7_placeOfFrames 43 = .ok (.iload_n 3, 1) := by decide +kernel
theorem dX7_placeOfFrames_44 : decode cX7_placeOfFrames 44 = .ok (.goto 5, 3) := by decide +kernel
theorem dX7_placeOfFrames_47 : decode cX7_placeOfFrames 47 = .ok (.bipush (-4), 2) := by decide +kernel
theorem dX7_placeOfFrames_49 : decode cX7_placeOfFrames 49 = .ok (.ireturn, 1) := by decide +kernel
theorem dX7_isZeroOrOne_0 : decode cX7_isZeroOrOne 0 = .ok (.iload_n 0, 1) := by decide +kernel
theorem dX7_isZeroOrOne_1 : decode cX7_isZeroOrOne 1 = .ok (.ifCond .eq 8, 3) := by decide +kernel
theorem dX7_isZeroOrOne_4 : decode cX7_isZeroOrOne 4 = .ok (.iload_n 0, 1) := by decide +kernel
theorem dX7_isZeroOrOne_5 : decode cX7_isZeroOrOne 5 = .ok (.iconst 1, 1) := by decide +kernel
theorem dX7_isZeroOrOne_6 : decode cX7_isZeroOrOne 6 = .ok (.if_icmp .ne 7, 3) := by decide +kernel
theorem dX7_isZeroOrOne_9 : decode cX7_isZeroOrOne 9 = .ok (.iconst 1, 1) := by decide +kernel
theorem dX7_isZeroOrOne_10 : decode cX7_isZeroOrOne 10 = .ok (.goto 4, 3) := by decide +kernel
theorem dX7_isZeroOrOne_13 : decode cX7_isZeroOrOne 13 = .ok (.iconst 0, 1) := by decide +kernel
theorem dX7_isZeroOrOne_14 : decode cX7_isZeroOrOne 14 = .ok (.ireturn, 1) := by decide +kernel
theorem dX7_isFigure_0 : decode cX7_isFigure 0 = .ok (.iload_n 0, 1) := by decide +kernel
theorem dX7_isFigure_1 : decode cX7_isFigure 1 = .ok (.ifCond .lt 13, 3) := by decide +kernel
theorem dX7_isFigure_4 : decode cX7_isFigure 4 = .ok (.iload_n 0, 1) := by decide +kernel
theorem dX7_isFigure_5 : decode cX7_isFigure 5 = .ok (.bipush 9, 2) := by decide +kernel
theorem dX7_isFigure_7 : decode cX7_isFigure 7 = .ok (.if_icmp .gt 7, 3) := by decide +kernel
theorem dX7_isFigure_10 : decode cX7_isFigure 10 = .ok (.iconst 1, 1) := by decide +kernel
theorem dX7_isFigure_11 : decode cX7_isFigure 11 = .ok (.goto 4, 3) := by decide +kernel
theorem dX7_isFigure_14 : decode cX7_isFigure 14 = .ok (.iconst 0, 1) := by decide +kernel
theorem dX7_isFigure_15 : decode cX7_isFigure 15 = .ok (.ireturn, 1) := by decide +kernel
theorem dX7_isMost_0 : decode cX7_isMost 0 = .ok (.iload_n 0, 1) := by decide +kernel
theorem dX7_isMost_1 : decode cX7_isMost 1 = .ok (.iconst 1, 1) := by decide +kernel
theorem dX7_isMost_2 : decode cX7_isMost 2 = .ok (.if_icmp .lt 13, 3) := by decide +kernel
theorem dX7_isMost_5 : decode cX7_isMost 5 = .ok (.iload_n 0, 1) := by decide +kernel
theorem dX7_isMost_6 : decode cX7_isMost 6 = .ok (.bipush 6, 2) := by decide +kernel
theorem dX7_isMost_8 : decode cX7_isMost 8 = .ok (.if_icmp .gt 7, 3) := by decide +kernel
theorem dX7_isMost_11 : decode cX7_isMost 11 = .ok (.iconst 1, 1) := by decide +kernel
theorem dX7_isMost_12 : decode cX7_isMost 12 = .ok (.goto 4, 3) := by decide +kernel
theorem dX7_isMost_15 : decode cX7_isMost 15 = .ok (.iconst 0, 1) := by decide +kernel
theorem dX7_isMost_16 : decode cX7_isMost 16 = .ok (.ireturn, 1) := by decide +kernel
set_option maxRecDepth 20000 in
theorem ggX8_init_X8_clearsPlan : GoodIn wsX8_init wsX8_clearsPlan := goodIn_r _ [21, 22, 11, 12, 38, 39, 40, 41, 42, 43, 44, 45, 46, 47, 48, 49, 50, 51, 52, 53, 54, 55] (by decide +kernel) (by decide +kernel)
set_option maxRecDepth 20000 in
theorem gX8_init_X8_clearsPlan : GoodIn wsX8_init (wsV RX8 44 RX8 yX8_clearsPlan wsX8_clearsPlan) := goodIn_app (goodIn_of _ (by decide +kernel)) ggX8_init_X8_clearsPlan
set_option maxRecDepth 20000 in
theorem ggX8_init_X8_adds : GoodIn wsX8_init wsX8_adds := goodIn_r _ [26, 10, 22, 38, 39, 40, 41, 42, 43, 44, 45, 46, 47, 48, 49, 50, 51, 52, 53, 54, 55] (by decide +kernel) (by decide +kernel)
set_option maxRecDepth 20000 in
theorem gX8_init_X8_adds : GoodIn wsX8_init (wsV RX8 47 RX8 yX8_adds wsX8_adds) := goodIn_app (goodIn_of _ (by decide +kernel)) ggX8_init_X8_adds
set_option maxRecDepth 20000 in
theorem ggX8_init_X8_lays : GoodIn wsX8_init wsX8_lays := goodIn_r _ [30, 22, 31, 12, 32, 33, 5, 11, 10, 8, 34, 35, 36, 20, 37, 38, 39, 40, 41, 42, 43, 44, 45, 46, 47, 48, 49, 50, 51, 52, 53, 54, 55] (by decide +kernel) (by decide +kernel)
set_option maxRecDepth 20000 in
theorem gX8_init_X8_lays : GoodIn wsX8_init (wsV RX8 51 RX8 yX8_lays wsX8_lays) := goodIn_app (goodIn_of _ (by decide +kernel)) ggX8_init_X8_lays
theorem dX8_init_0 : decode cX8_init 0 = .ok (.aload_n 0, 1) := by decide +kernel
theorem dX8_init_1 : decode cX8_init 1 = .ok (.invokespecial 1, 3) := by decide +kernel
theorem dX8_init_4 : decode cX8_init 4 = .ok (.aload_n 0, 1) := by decide +kernel
theorem dX8_init_5 : decode cX8_init 5 = .ok (.sipush 235, 3) := by decide +kernel
theorem dX8_init_8 : decode cX8_init 8 = .ok (.newarray .int, 2) := by decide +kernel
theorem dX8_init_10 : decode cX8_init 10 = .ok (.putfield 7, 3) := by decide +kernel
theorem dX8_init_13 : decode cX8_init 13 = .ok (.aload_n 0, 1) := by decide +kernel
theorem dX8_init_14 : decode cX8_init 14 = .ok (.sipush 235, 3) := by decide +kernel
theorem dX8_init_17 : decode cX8_init 17 = .ok (.newarray .int, 2) := by decide +kernel
theorem dX8_init_19 : decode cX8_init 19 = .ok (.putfield 13, 3) := by decide +kernel
theorem dX8_init_22 : decode cX8_init 22 = .ok (.aload_n 0, 1) := by decide +kernel
theorem dX8_init_23 : decode cX8_init 23 = .ok (.sipush 1410, 3) := by decide +kernel
theorem dX8_init_26 : decode cX8_init 26 = .ok (.newarray .int, 2) := by decide +kernel
theorem dX8_init_28 : decode cX8_init 28 = .ok (.putfield 16, 3) := by decide +kernel
theorem dX8_init_31 : decode cX8_init 31 = .ok (.aload_n 0, 1) := by decide +kernel
theorem dX8_init_32 : decode cX8_init 32 = .ok (.bipush 12, 2) := by decide +kernel
theorem dX8_init_34 : decode cX8_init 34 = .ok (.newarray .int, 2) := by decide +kernel
theorem dX8_init_36 : decode cX8_init 36 = .ok (.putfield 19, 3) := by decide +kernel
theorem dX8_init_39 : decode cX8_init 39 = .ok (.aload_n 0, 1) := by decide +kernel
theorem dX8_init_40 : decode cX8_init 40 = .ok (.sipush 200, 3) := by decide +kernel
theorem dX8_init_43 : decode cX8_init 43 = .ok (.newarray .int, 2) := by decide +kernel
theorem dX8_init_45 : decode cX8_init 45 = .ok (.putfield 22, 3) := by decide +kernel
theorem dX8_init_48 : decode cX8_init 48 = .ok (.aload_n 0, 1) := by decide +kernel
theorem dX8_init_49 : decode cX8_init 49 = .ok (.bipush 24, 2) := by decide +kernel
theorem dX8_init_51 : decode cX8_init 51 = .ok (.newarray .int, 2) := by decide +kernel
theorem dX8_init_53 : decode cX8_init 53 = .ok (.putfield 25, 3) := by decide +kernel
theorem dX8_init_56 : decode cX8_init 56 = .ok (.aload_n 0, 1) := by decide +kernel
theorem dX8_init_57 : decode cX8_init 57 = .ok (.iconst 2, 1) := by decide +kernel
theorem dX8_init_58 : decode cX8_init 58 = .ok (.newarray .int, 2) := by decide +kernel
theorem dX8_init_60 : decode cX8_init 60 = .ok (.putfield 28, 3) := by decide +kernel
theorem dX8_init_63 : decode cX8_init 63 = .ok (.aload_n 0, 1) := by decide +kernel
theorem dX8_init_64 : decode cX8_init 64 = .ok (.iconst 3, 1) := by decide +kernel
theorem dX8_init_65 : decode cX8_init 65 = .ok (.newarray .int, 2) := by decide +kernel
theorem dX8_init_67 : decode cX8_init 67 = .ok (.putfield 31, 3) := by decide +kernel
theorem dX8_init_70 : decode cX8_init 70 = .ok (.aload_n 0, 1) := by decide +kernel
theorem dX8_init_71 : decode cX8_init 71 = .ok (.iconst 4, 1) := by decide +kernel
theorem dX8_init_72 : decode cX8_init 72 = .ok (.newarray .int, 2) := by decide +kernel
theorem dX8_init_74 : decode cX8_init 74 = .ok (.putfield 34, 3) := by decide +kernel
theorem dX8_init_77 : decode cX8_init 77 = .ok (.aload_n 0, 1) := by decide +kernel
theorem dX8_init_78 : decode cX8_init 78 = .ok (.bipush 6, 2) := by decide +kernel
theorem dX8_init_80 : decode cX8_init 80 = .ok (.newarray .boolean, 2) := by decide +kernel
theorem dX8_init_82 : decode cX8_init 82 = .ok (.putfield 37, 3) := by decide +kernel
theorem dX8_init_85 : decode cX8_init 85 = .ok (.aload_n 0, 1) := by decide +kernel
theorem dX8_init_86 : decode cX8_init 86 = .ok (.bipush 28, 2) := by decide +kernel
theorem dX8_init_88 : decode cX8_init 88 = .ok (.newarray .int, 2) := by decide +kernel
theorem dX8_init_90 : decode cX8_init 90 = .ok (.putfield 41, 3) := by decide +kernel
theorem dX8_init_93 : decode cX8_init 93 = .ok (.aload_n 0, 1) := by decide +kernel
theorem dX8_init_94 : decode cX8_init 94 = .ok (.invokevirtual 44, 3) := by decide +kernel
theorem dX8_init_97 : decode cX8_init 97 = .ok (.aload_n 0, 1) := by decide +kernel
theorem dX8_init_98 : decode cX8_init 98 = .ok (.iconst 1, 1) := by decide +kernel
theorem dX8_init_99 : decode cX8_init 99 = .ok (.iconst 5, 1) := by decide +kernel
theorem dX8_init_100 : decode cX8_init 100 = .ok (.iconst 2, 1) := by decide +kernel
theorem dX8_init_101 : decode cX8_init 101 = .ok (.iconst 5, 1) := by decide +kernel
theorem dX8_init_102 : decode cX8_init 102 = .ok (.invokevirtual 47, 3) := by decide +kernel
theorem dX8_init_105 : decode cX8_init 105 = .ok (.aload_n 0, 1) := by decide +kernel
theorem dX8_init_106 : decode cX8_init 106 = .ok (.iconst 1, 1) := by decide +kernel
theorem dX8_init_107 : decode cX8_init 107 = .ok (.iconst 3, 1) := by decide +kernel
theorem dX8_init_108 : decode cX8_init 108 = .ok (.iconst 2, 1) := by decide +kernel
theorem dX8_init_109 : decode cX8_init 109 = .ok (.iconst 4, 1) := by decide +kernel
theorem dX8_init_110 : decode cX8_init 110 = .ok (.invokevirtual 47, 3) := by decide +kernel
theorem dX8_init_113 : decode cX8_init 113 = .ok (.aload_n 0, 1) := by decide +kernel
theorem dX8_init_114 : decode cX8_init 114 = .ok (.iconst 1, 1) := by decide +kernel
theorem dX8_init_115 : decode cX8_init 115 = .ok (.iconst 5, 1) := by decide +kernel
theorem dX8_init_116 : decode cX8_init 116 = .ok (.iconst 2, 1) := by decide +kernel
theorem dX8_init_117 : decode cX8_init 117 = .ok (.iconst 1, 1) := by decide +kernel
theorem dX8_init_118 : decode cX8_init 118 = .ok (.invokevirtual 47, 3) := by decide +kernel
theorem dX8_init_121 : decode cX8_init 121 = .ok (.aload_n 0, 1) := by decide +kernel
theorem dX8_init_122 : decode cX8_init 122 = .ok (.iconst 1, 1) := by decide +kernel
theorem dX8_init_123 : decode cX8_init 123 = .ok (.iconst 5, 1) := by decide +kernel
theorem dX8_init_124 : decode cX8_init 124 = .ok (.iconst 3, 1) := by decide +kernel
theorem dX8_init_125 : decode cX8_init 125 = .ok (.iconst 5, 1) := by decide +kernel
theorem dX8_init_126 : decode cX8_init 126 = .ok (.invokevirtual 47, 3) := by decide +kernel
theorem dX8_init_129 : decode cX8_init 129 = .ok (.aload_n 0, 1) := by decide +kernel
theorem dX8_init_130 : decode cX8_init 130 = .ok (.iconst 1, 1) := by decide +kernel
theorem dX8_init_131 : decode cX8_init 131 = .ok (.bipush 6, 2) := by decide +kernel
theorem dX8_init_133 : decode cX8_init 133 = .ok (.iconst 2, 1) := by decide +kernel
theorem dX8_init_134 : decode cX8_init 134 = .ok (.bipush 6, 2) := by decide +kernel
theorem dX8_init_136 : decode cX8_init 136 = .ok (.invokevirtual 47, 3) := by decide +kernel
theorem dX8_init_139 : decode cX8_init 139 = .ok (.aload_n 0, 1) := by decide +kernel
theorem dX8_init_140 : decode cX8_init 140 = .ok (.getfield 28, 3) := by decide +kernel
theorem dX8_init_143 : decode cX8_init 143 = .ok (.iconst 0, 1) := by decide +kernel
theorem dX8_init_144 : decode cX8_init 144 = .ok (.iconst 4, 1) := by decide +kernel
theorem dX8_init_145 : decode cX8_init 145 = .ok (.iastore, 1) := by decide +kernel
theorem dX8_init_146 : decode cX8_init 146 = .ok (.aload_n 0, 1) := by decide +kernel
theorem dX8_init_147 : decode cX8_init 147 = .ok (.getfield 31, 3) := by decide +kernel
theorem dX8_init_150 : decode cX8_init 150 = .ok (.iconst 0, 1) := by decide +kernel
theorem dX8_init_151 : decode cX8_init 151 = .ok (.iconst 2, 1) := by decide +kernel
theorem dX8_init_152 : decode cX8_init 152 = .ok (.iastore, 1) := by decide +kernel
theorem dX8_init_153 : decode cX8_init 153 = .ok (.aload_n 0, 1) := by decide +kernel
theorem dX8_init_154 : decode cX8_init 154 = .ok (.invokevirtual 51, 3) := by decide +kernel
theorem dX8_init_157 : decode cX8_init 157 = .ok (.return_, 1) := by decide +kernel
theorem dX8_within_0 : decode cX8_within 0 = .ok (.iload_n 0, 1) := by decide +kernel
theorem dX8_within_1 : decode cX8_within 1 = .ok (.iload_n 1, 1) := by decide +kernel
theorem dX8_within_2 : decode cX8_within 2 = .ok (.if_icmp .lt 12, 3) := by decide +kernel
theorem dX8_within_5 : decode cX8_within 5 = .ok (.iload_n 0, 1) := by decide +kernel
theorem dX8_within_6 : decode cX8_within 6 = .ok (.iload_n 2, 1) := by decide +kernel
theorem dX8_within_7 : decode cX8_within 7 = .ok (.if_icmp .gt 7, 3) := by decide +kernel
theorem dX8_within_10 : decode cX8_within 10 = .ok (.iconst 1, 1) := by decide +kernel
theorem dX8_within_11 : decode cX8_within 11 = .ok (.goto 4, 3) := by decide +kernel
theorem dX8_within_14 : decode cX8_within 14 = .ok (.iconst 0, 1) := by decide +kernel
theorem dX8_within_15 : decode cX8_within 15 = .ok (.ireturn, 1) := by decide +kernel
theorem dX8_clearsPlan_0 : decode cX8_clearsPlan 0 = .ok (.aload_n 0, 1) := by decide +kernel
theorem dX8_clearsPlan_1 : decode cX8_clearsPlan 1 = .ok (.iconst 0, 1) := by decide +kernel
theorem dX8_clearsPlan_2 : decode cX8_clearsPlan 2 = .ok (.putfield 54, 3) := by decide +kernel
theorem dX8_clearsPlan_5 : decode cX8_clearsPlan 5 = .ok (.aload_n 0, 1) := by decide +kernel
theorem dX8_clearsPlan_6 : decode cX8_clearsPlan 6 = .ok (.getfield 28, 3) := by decide +kernel
theorem dX8_clearsPlan_9 : decode cX8_clearsPlan 9 = .ok (.iconst 0, 1) := by decide +kernel
theorem dX8_clearsPlan_10 : decode cX8_clearsPlan 10 = .ok (.iconst 5, 1) := by decide +kernel
theorem dX8_clearsPlan_11 : decode cX8_clearsPlan 11 = .ok (.iastore, 1) := by decide +kernel
theorem dX8_clearsPlan_12 : decode cX8_clearsPlan 12 = .ok (.aload_n 0, 1) := by decide +kernel
theorem dX8_clearsPlan_13 : decode cX8_clearsPlan 13 = .ok (.getfield 28, 3) := by decide +kernel
theorem dX8_clearsPlan_16 : decode cX8_clearsPlan 16 = .ok (.iconst 1, 1) := by decide +kernel
theorem dX8_clearsPlan_17 : decode cX8_clearsPlan 17 = .ok (.iconst 5, 1) := by decide +kernel
theorem dX8_clearsPlan_18 : decode cX8_clearsPlan 18 = .ok (.iastore, 1) := by decide +kernel
theorem dX8_clearsPlan_19 : decode cX8_clearsPlan 19 = .ok (.aload_n 0, 1) := by decide +kernel
theorem dX8_clearsPlan_20 : decode cX8_clearsPlan 20 = .ok (.getfield 31, 3) := by decide +kernel
theorem dX8_clearsPlan_23 : decode cX8_clearsPlan 23 = .ok (.iconst 0, 1) := by decide +kernel
theorem dX8_clearsPlan_24 : decode cX8_clearsPlan 24 = .ok (.iconst 4, 1) := by decide +kernel
theorem dX8_clearsPlan_25 : decode cX8_clearsPlan 25 = .ok (.iastore, 1) := by decide +kernel
theorem dX8_clearsPlan_26 : decode cX8_clearsPlan 26 = .ok (.aload_n 0, 1) := by decide +kernel
theorem dX8_clearsPlan_27 : decode cX8_clearsPlan 27 = .ok (.getfield 31, 3) := by decide +kernel
theorem dX8_clearsPlan_30 : decode cX8_clearsPlan 30 = .ok (.iconst 1, 1) := by decide +kernel
theorem dX8_clearsPlan_31 : decode cX8_clearsPlan 31 = .ok (.iconst 2, 1) := by decide +kernel
theorem dX8_clearsPlan_32 : decode cX8_clearsPlan 32 = .ok (.iastore, 1) := by decide +kernel
theorem dX8_clearsPlan_33 : decode cX8_clearsPlan 33 = .ok (.aload_n 0, 1) := by decide +kernel
theorem dX8_clearsPlan_34 : decode cX8_clearsPlan 34 = .ok (.getfield 31, 3) := by decide +kernel
theorem dX8_clearsPlan_37 : decode cX8_clearsPlan 37 = .ok (.iconst 2, 1) := by decide +kernel
theorem dX8_clearsPlan_38 : decode cX8_clearsPlan 38 = .ok (.iconst 1, 1) := by decide +kernel
theorem dX8_clearsPlan_39 : decode cX8_clearsPlan 39 = .ok (.iastore, 1) := by decide +kernel
theorem dX8_clearsPlan_40 : decode cX8_clearsPlan 40 = .ok (.return_, 1) := by decide +kernel
theorem dX8_adds_0 : decode cX8_adds 0 = .ok (.aload_n 0, 1) := by decide +kernel
theorem dX8_adds_1 : decode cX8_adds 1 = .ok (.getfield 25, 3) := by decide +kernel
theorem dX8_adds_4 : decode cX8_adds 4 = .ok (.iconst 4, 1) := by decide +kernel
theorem dX8_adds_5 : decode cX8_adds 5 = .ok (.aload_n 0, 1) := by decide +kernel
theorem dX8_adds_6 : decode cX8_adds 6 = .ok (.getfield 54, 3) := by decide +kernel
theorem dX8_adds_9 : decode cX8_adds 9 = .ok (.imul, 1) := by decide +kernel
theorem dX8_adds_10 : decode cX8_adds 10 = .ok (.iload_n 1, 1) := by decide +kernel
theorem dX8_adds_11 : decode cX8_adds 11 = .ok (.iastore, 1) := by decide +kernel
theorem dX8_adds_12 : decode cX8_adds 12 = .ok (.aload_n 0, 1) := by decide +kernel
theorem dX8_adds_13 : decode cX8_adds 13 = .ok (.getfield 25, 3) := by decide +kernel
theorem dX8_adds_16 : decode cX8_adds 16 = .ok (.iconst 4, 1) := by decide +kernel
theorem dX8_adds_17 : decode cX8_adds 17 = .ok (.aload_n 0, 1) := by decide +kernel
theorem dX8_adds_18 : decode cX8_adds 18 = .ok (.getfield 54, 3) := by decide +kernel
theorem dX8_adds_21 : decode cX8_adds 21 = .ok (.imul, 1) := by decide +kernel
theorem dX8_adds_22 : decode cX8_adds 22 = .ok (.iconst 1, 1) := by decide +kernel
theorem dX8_adds_23 : decode cX8_adds 23 = .ok (.iadd, 1) := by decide +kernel
theorem dX8_adds_24 : decode cX8_adds 24 = .ok (.iload_n 2, 1) := by decide +kernel
theorem dX8_adds_25 : decode cX8_adds 25 = .ok (.iastore, 1) := by decide +kernel
theorem dX8_adds_26 : decode cX8_adds 26 = .ok (.aload_n 0, 1) := by decide +kernel
theorem dX8_adds_27 : decode cX8_adds 27 = .ok (.getfield 25, 3) := by decide +kernel
theorem dX8_adds_30 : decode cX8_adds 30 = .ok (.iconst 4, 1) := by decide +kernel
theorem dX8_adds_31 : decode cX8_adds 31 = .ok (.aload_n 0, 1) := by decide +kernel
theorem dX8_adds_32 : decode cX8_adds 32 = .ok (.getfield 54, 3) := by decide +kernel
theorem dX8_adds_35 : decode cX8_adds 35 = .ok (.imul, 1) := by decide +kernel
theorem dX8_adds_36 : decode cX8_adds 36 = .ok (.iconst 2, 1) := by decide +kernel
theorem dX8_adds_37 : decode cX8_adds 37 = .ok (.iadd, 1) := by decide +kernel
theorem dX8_adds_38 : decode cX8_adds 38 = .ok (.iload_n 3, 1) := by decide +kernel
theorem dX8_adds_39 : decode cX8_adds 39 = .ok (.iastore, 1) := by decide +kernel
theorem dX8_adds_40 : decode cX8_adds 40 = .ok (.aload_n 0, 1) := by decide +kernel
theorem dX8_adds_41 : decode cX8_adds 41 = .ok (.getfield 25, 3) := by decide +kernel
theorem dX8_adds_44 : decode cX8_adds 44 = .ok (.iconst 4, 1) := by decide +kernel
theorem dX8_adds_45 : decode cX8_adds 45 = .ok (.aload_n 0, 1) := by decide +kernel
theorem dX8_adds_46 : decode cX8_adds 46 = .ok (.getfield 54, 3) := by decide +kernel
theorem dX8_adds_49 : decode cX8_adds 49 = .ok (.imul, 1) := by decide +kernel
theorem dX8_adds_50 : decode cX8_adds 50 = .ok (.iconst 3, 1) := by decide +kernel
theorem dX8_adds_51 : decode cX8_adds 51 = .ok (.iadd, 1) := by decide +kernel
theorem dX8_adds_52 : decode cX8_adds 52 = .ok (.iload 4, 2) := by decide +kernel
theorem dX8_adds_54 : decode cX8_adds 54 = .ok (.iastore, 1) := by decide +kernel
theorem dX8_adds_55 : decode cX8_adds 55 = .ok (.aload_n 0, 1) := by decide +kernel
theorem dX8_adds_56 : decode cX8_adds 56 = .ok (.dup, 1) := by decide +kernel
theorem dX8_adds_57 : decode cX8_adds 57 = .ok (.getfield 54, 3) := by decide +kernel
theorem dX8_adds_60 : decode cX8_adds 60 = .ok (.iconst 1, 1) := by decide +kernel
theorem dX8_adds_61 : decode cX8_adds 61 = .ok (.iadd, 1) := by decide +kernel
theorem dX8_adds_62 : decode cX8_adds 62 = .ok (.putfield 54, 3) := by decide +kernel
theorem dX8_adds_65 : decode cX8_adds 65 = .ok (.return_, 1) := by decide +kernel
theorem dX8_passes_0 : decode cX8_passes 0 = .ok (.aload_n 0, 1) := by decide +kernel
theorem dX8_passes_1 : decode cX8_passes 1 = .ok (.getfield 58, 3) := by decide +kernel
theorem dX8_passes_4 : decode cX8_passes 4 = .ok (.aload_n 0, 1) := by decide +kernel
theorem dX8_passes_5 : decode cX8_passes 5 = .ok (.getfield 61, 3) := by decide +kernel
theorem dX8_passes_8 : decode cX8_passes 8 = .ok (.if_icmp .ge 20, 3) := by decide +kernel
theorem dX8_passes_11 : decode cX8_passes 11 = .ok (.aload_n 0, 1) := by decide +kernel
theorem dX8_passes_12 : decode cX8_passes 12 = .ok (.getfield 22, 3) := by decide +kernel
theorem dX8_passes_15 : decode cX8_passes 15 = .ok (.aload_n 0, 1) := by decide +kernel
theorem dX8_passes_16 : decode cX8_passes 16 = .ok (.getfield 58, 3) := by decide +kernel
theorem dX8_passes_19 : decode cX8_passes 19 = .ok (.iaload, 1) := by decide +kernel
theorem dX8_passes_20 : decode cX8_passes 20 = .ok (.iload_n 1, 1) := by decide +kernel
theorem dX8_passes_21 : decode cX8_passes 21 = .ok (.if_icmp .ne 7, 3) := by decide +kernel
theorem dX8_passes_24 : decode cX8_passes 24 = .ok (.iconst 1, 1) := by decide +kernel
theorem dX8_passes_25 : decode cX8_passes 25 = .ok (.goto 4, 3) := by decide +kernel
theorem dX8_passes_28 : decode cX8_passes 28 = .ok (.iconst 0, 1) := by decide +kernel
theorem dX8_passes_29 : decode cX8_passes 29 = .ok (.istore_n 2, 1) := by decide +kernel
theorem dX8_passes_30 : decode cX8_passes 30 = .ok (.aload_n 0, 1) := by decide +kernel
theorem dX8_passes_31 : decode cX8_passes 31 = .ok (.dup, 1) := by decide +kernel
theorem dX8_passes_32 : decode cX8_passes 32 = .ok (.getfield 58, 3) := by decide +kernel
theorem dX8_passes_35 : decode cX8_passes 35 = .ok (.iload_n 2, 1) := by decide +kernel
theorem dX8_passes_36 : decode cX8_passes 36 = .ok (.ifCond .eq 7, 3) := by decide +kernel
theorem dX8_passes_39 : decode cX8_passes 39 = .ok (.iconst 1, 1) := by decide +kernel
theorem dX8_passes_40 : decode cX8_passes 40 = .ok (.goto 4, 3) := by decide +kernel
theorem dX8_passes_43 : decode cX8_passes 43 = .ok (.iconst 0, 1) := by decide +kernel
theorem dX8_passes_44 : decode cX8_passes 44 = .ok (.iadd, 1) := by decide +kernel
theorem dX8_passes_45 : decode cX8_passes 45 = .ok (.putfield 58, 3) := by decide +kernel
theorem dX8_passes_48 : decode cX8_passes 48 = .ok (.iload_n 2, 1) := by decide +kernel
theorem dX8_passes_49 : decode cX8_passes 49 = .ok (.ireturn, 1) := by decide +kernel
set_option maxRecDepth 20000 in
theorem ggX8_areFigures_X8_passes : GoodIn wsX8_areFigures wsX8_passes := goodIn_r _ [9, 1, 2, 3, 13, 14, 15, 16, 17, 18, 19, 20, 21, 22, 23, 24, 25, 26, 27, 28, 29, 30] (by decide +kernel) (by decide +kernel)
set_option maxRecDepth 20000 in
theorem gX8_areFigures_X8_passes : GoodIn wsX8_areFigures (wsV RX8 64 RX8 yX8_passes wsX8_passes) := goodIn_app (goodIn_of _ (by decide +kernel)) ggX8_areFigures_X8_passes
set_option maxRecDepth 20000 in
theorem ggX8_areFigures_X8_within : GoodIn wsX8_areFigures wsX8_within := goodIn_r _ [12] (by decide +kernel) (by decide +kernel)
set_option maxRecDepth 20000 in
theorem gX8_areFigures_X8_within : GoodIn wsX8_areFigures (va_wsS RX8 68 yX8_within wsX8_within) := goodIn_app (goodIn_of _ (by decide +kernel)) ggX8_areFigures_X8_within
theorem dX8_areFigures_0 : decode cX8_areFigures 0 = .ok (.iconst 1, 1) := by decide +kernel
theorem dX8_areFigures_1 : decode cX8_areFigures 1 = .ok (.istore_n 2, 1) := by decide +kernel
theorem dX8_areFigures_2 : decode cX8_areFigures 2 = .ok (.iconst 0, 1) := by decide +kernel
theorem dX8_areFigures_3 : decode cX8_areFigures 3 = .ok (.istore_n 3, 1) := by decide +kernel
theorem dX8_areFigures_4 : decode cX8_areFigures 4 = .ok (.iload_n 3, 1) := by decide +kernel
theorem dX8_areFigures_5 : decode cX8_areFigures 5 = .ok (.iload_n 1, 1) := by decide +kernel
theorem dX8_areFigures_6 : decode cX8_areFigures 6 = .ok (.if_icmp .ge 106, 3) := by decide +kernel
theorem dX8_areFigures_9 : decode cX8_areFigures 9 = .ok (.iload_n 2, 1) := by decide +kernel
theorem dX8_areFigures_10 : decode cX8_areFigures 10 = .ok (.ifCond .eq 102, 3) := by decide +kernel
theorem dX8_areFigures_13 : decode cX8_areFigures 13 = .ok (.iload_n 3, 1) := by decide +kernel
theorem dX8_areFigures_14 : decode cX8_areFigures 14 = .ok (.ifCond .eq 12, 3) := by decide +kernel
theorem dX8_areFigures_17 : decode cX8_areFigures 17 = .ok (.aload_n 0, 1) := by decide +kernel
theorem dX8_areFigures_18 : decode cX8_areFigures 18 = .ok (.bipush 44, 2) := by decide +kernel
theorem dX8_areFigures_20 : decode cX8_areFigures 20 = .ok (.invokevirtual 64, 3) := by decide +kernel
theorem dX8_areFigures_23 : decode cX8_areFigures 23 = .ok (.ifCond .eq 37, 3) := by decide +kernel
theorem dX8_areFigures_26 : decode cX8_areFigures 26 = .ok (.aload_n 0, 1) := by decide +kernel
theorem dX8_areFigures_27 : decode cX8_areFigures 27 = .ok (.getfield 58, 3) := by decide +kernel
theorem dX8_areFigures_30 : decode cX8_areFigures 30 = .ok (.aload_n 0, 1) := by decide +kernel
theorem dX8_areFigures_31 : decode cX8_areFigures 31 = .ok (.getfield 61, 3) := by decide +kernel
theorem dX8_areFigures_34 : decode cX8_areFigures 34 = .ok (.if_icmp .ge 26, 3) := by decide +kernel
theorem dX8_areFigures_37 : decode cX8_areFigures 37 = .ok (.aload_n 0, 1) := by decide +kernel
theorem dX8_areFigures_38 : decode cX8_areFigures 38 = .ok (.getfield 22, 3) := by decide +kernel
theorem dX8_areFigures_41 : decode cX8_areFigures 41 = .ok (.aload_n 0, 1) := by decide +kernel
theorem dX8_areFigures_42 : decode cX8_areFigures 42 = .ok (.getfield 58, 3) := by decide +kernel
theorem dX8_areFigures_45 : decode cX8_areFigures 45 = .ok (.iaload, 1) := by decide +kernel
theorem dX8_areFigures_46 : decode cX8_areFigures 46 = .ok (.bipush 48, 2) := by decide +kernel
theorem dX8_areFigures_48 : decode cX8_areFigures 48 = .ok (.bipush 57, 2) := by decide +kernel
theorem dX8_areFigures_50 : decode cX8_areFigures 50 = .ok (.invokestatic 68, 3) := by decide +kernel
theorem dX8_areFigures_53 : decode cX8_areFigures 53 = .ok (.ifCond .eq 7, 3) := by decide +kernel
theorem dX8_areFigures_56 : decode cX8_areFigures 56 = .ok (.iconst 1, 1) := by decide +kernel
theorem dX8_areFigures_57 : decode cX8_areFigures 57 = .ok (.goto 4, 3) := by decide +kernel
theorem dX8_areFigures_60 : decode cX8_areFigures 60 = .ok (.iconst 0, 1) := by decide +kernel
theorem dX8_areFigures_61 : decode cX8_areFigures 61 = .ok (.istore_n 2, 1) := by decide +kernel
theorem dX8_areFigures_62 : decode cX8_areFigures 62 = .ok (.aload_n 0, 1) := by decide +kernel
theorem dX8_areFigures_63 : decode cX8_areFigures 63 = .ok (.getfield 34, 3) := by decide +kernel
theorem dX8_areFigures_66 : decode cX8_areFigures 66 = .ok (.iload_n 3, 1) := by decide +kernel
theorem dX8_areFigures_67 : decode cX8_areFigures 67 = .ok (.iload_n 2, 1) := by decide +kernel
theorem dX8_areFigures_68 : decode cX8_areFigures 68 = .ok (.ifCond .eq 18, 3) := by decide +kernel
theorem dX8_areFigures_71 : decode cX8_areFigures 71 = .ok (.aload_n 0, 1) := by decide +kernel
theorem dX8_areFigures_72 : decode cX8_areFigures 72 = .ok (.getfield 22, 3) := by decide +kernel
theorem dX8_areFigures_75 : decode cX8_areFigures 75 = .ok (.aload_n 0, 1) := by decide +kernel
theorem dX8_areFigures_76 : decode cX8_areFigures 76 = .ok (.getfield 58, 3) := by decide +kernel
theorem dX8_areFigures_79 : decode cX8_areFigures 79 = .ok (.iaload, 1) := by decide +kernel
theorem dX8_areFigures_80 : decode cX8_areFigures 80 = .ok (.bipush 48, 2) := by decide +kernel
theorem dX8_areFigures_82 : decode cX8_areFigures 82 = .ok (.isub, 1) := by decide +kernel
theorem dX8_areFigures_83 : decode cX8_areFigures 83 = .ok (.goto 4, 3) := by decide +kernel
theorem dX8_areFigures_86 : decode cX8_areFigures 86 = .ok (.iconst 0, 1) := by decide +kernel
theorem dX8_areFigures_87 : decode cX8_areFigures 87 = .ok (.iastore, 1) := by decide +kernel
theorem dX8_areFigures_88 : decode cX8_areFigures 88 = .ok (.aload_n 0, 1) := by decide +kernel
theorem dX8_areFigures_89 : decode cX8_areFigures 89 = .ok (.dup, 1) := by decide +kernel
theorem dX8_areFigures_90 : decode cX8_areFigures 90 = .ok (.getfield 58, 3) := by decide +kernel
theorem dX8_areFigures_93 : decode cX8_areFigures 93 = .ok (.iload_n 2, 1) := by decide +kernel
theorem dX8_areFigures_94 : decode cX8_areFigures 94 = .ok (.ifCond .eq 7, 3) := by decide +kernel
theorem dX8_areFigures_97 : decode cX8_areFigures 97 = .ok (.iconst 1, 1) := by decide +kernel
theorem dX8_areFigures_98 : decode cX8_areFigures 98 = .ok (.goto 4, 3) := by decide +kernel
theorem dX8_areFigures_101 : decode cX8_areFigures 101 = .ok (.iconst 0, 1) := by decide +kernel
theorem dX8_areFigures_102 : decode cX8_areFigures 102 = .ok (.iadd, 1) := by decide +kernel
theorem dX8_areFigures_103 : decode cX8_areFigures 103 = .ok (.putfield 58, 3) := by decide +kernel
theorem dX8_areFigures_106 : decode cX8_areFigures 106 = .ok (.iinc 3 1, 3) := by decide +kernel
theorem dX8_areFigures_109 : decode cX8_areFigures 109 = .ok (.goto (-105), 3) := by decide +kernel
theorem dX8_areFigures_112 : decode cX8_areFigures 112 = .ok (.iload_n 2, 1) := by decide +kernel
theorem dX8_areFigures_113 : decode cX8_areFigures 113 = .ok (.ifCond .eq 16, 3) := by decide +kernel
theorem dX8_areFigures_116 : decode cX8_areFigures 116 = .ok (.aload_n 0, 1) := by decide +kernel
theorem dX8_areFigures_117 : decode cX8_areFigures 117 = .ok (.bipush 59, 2) := by decide +kernel
theorem dX8_areFigures_119 : decode cX8_areFigures 119 = .ok (.invokevirtual 64, 3) := by decide +kernel
theorem dX8_areFigures_122 : decode cX8_areFigures 122 = .ok (.ifCond .eq 7, 3) := by decide +kernel
theorem dX8_areFigures_125 : decode cX8_areFigures 125 = .ok (.iconst 1, 1) := by decide +kernel
theorem dX8_areFigures_126 : decode cX8_areFigures 126 = .ok (.goto 4, 3) := by decide +kernel
theorem dX8_areFigures_129 : decode cX8_areFigures 129 = .ok (.iconst 0, 1) := by decide +kernel
theorem dX8_areFigures_130 : decode cX8_areFigures 130 = .ok (.ireturn, 1) := by decide +kernel
set_option maxRecDepth 20000 in
theorem ggX8_isItem_X8_passes : GoodIn wsX8_isItem wsX8_passes := goodIn_r _ [9, 10, 11, 12, 25, 26, 27, 28, 29, 30, 31, 32, 33, 34, 35, 36, 37, 38, 39, 40, 41, 42] (by decide +kernel) (by decide +kernel)
set_option maxRecDepth 20000 in
theorem gX8_isItem_X8_passes : GoodIn wsX8_isItem (wsV RX8 64 RX8 yX8_passes wsX8_passes) := goodIn_app (goodIn_of _ (by decide +kernel)) ggX8_isItem_X8_passes
set_option maxRecDepth 20000 in
theorem ggX8_isItem_X8_areFigures : GoodIn wsX8_isItem wsX8_areFigures := goodIn_r _ [16, 10, 11, 12, 2, 5, 6, 7, 8, 9, 17, 18, 19, 25, 26, 27, 28, 29, 30, 31, 32, 33, 34, 35, 36, 37, 38, 39, 40, 41, 42] (by decide +kernel) (by decide +kernel)
set_option maxRecDepth 20000 in
theorem gX8_isItem_X8_areFigures : GoodIn wsX8_isItem (wsV RX8 72 RX8 yX8_areFigures wsX8_areFigures) := goodIn_app (goodIn_of _ (by decide +kernel)) ggX8_isItem_X8_areFigures
set_option maxRecDepth 20000 in
theorem ggX8_isItem_X8_adds : GoodIn wsX8_isItem wsX8_adds := goodIn_r _ [23, 24, 1, 25, 26, 27, 28, 29, 30, 31, 32, 33, 34, 35, 36, 37, 38, 39, 40, 41, 42] (by decide +kernel) (by decide +kernel)
set_option maxRecDepth 20000 in
theorem gX8_isItem_X8_adds : GoodIn wsX8_isItem (wsV RX8 47 RX8 yX8_adds wsX8_adds) := goodIn_app (goodIn_of _ (by decide +kernel)) ggX8_isItem_X8_adds
set_option maxRecDepth 20000 in
theorem ggX8_isItem_X8_within : GoodIn wsX8_isItem wsX8_within := goodIn_r _ [19] (by decide +kernel) (by decide +kernel)
set_option maxRecDepth 20000 in
theorem gX8_isItem_X8_within : GoodIn wsX8_isItem (va_wsS RX8 68 yX8_within wsX8_within) := goodIn_app (goodIn_of _ (by decide +kernel)) ggX8_isItem_X8_within
theorem dX8_isItem_0 : decode cX8_isItem 0 = .ok (.aload_n 0, 1) := by decide +kernel
theorem dX8_isItem_1 : decode cX8_isItem 1 = .ok (.bipush 108, 2) := by decide +kernel
theorem dX8_isItem_3 : decode cX8_isItem 3 = .ok (.invokevirtual 64, 3) := by decide +kernel
theorem dX8_isItem_6 : decode cX8_isItem 6 = .ok (.ifCond .eq 52, 3) := by decide +kernel
theorem dX8_isItem_9 : decode cX8_isItem 9 = .ok (.aload_n 0, 1) := by decide +kernel
theorem dX8_isItem_10 : decode cX8_isItem 10 = .ok (.getfield 54, 3) := by decide +kernel
theorem dX8_isItem_13 : decode cX8_isItem 13 = .ok (.bipush 6, 2) := by decide +kernel
theorem dX8_isItem_15 : decode cX8_isItem 15 = .ok (.if_icmp .eq 11, 3) := by decide +kernel
theorem dX8_isItem_18 : decode cX8_isItem 18 = .ok (.aload_n 0, 1) := by decide +kernel
theorem dX8_isItem_19 : decode cX8_isItem 19 = .ok (.iconst 4, 1) := by decide +kernel
theorem dX8_isItem_20 : decode cX8_isItem 20 = .ok (.invokevirtual 72, 3) := by decide +kernel
theorem dX8_isItem_23 : decode cX8_isItem 23 = .ok (.ifCond .ne 5, 3) := by decide +kernel
theorem dX8_isItem_26 : decode cX8_isItem 26 = .ok (.iconst 0, 1) := by decide +kernel
theorem dX8_isItem_27 : decode cX8_isItem 27 = .ok (.ireturn, 1) := by decide +kernel
theorem dX8_isItem_28 : decode cX8_isItem 28 = .ok (.aload_n 0, 1) := by decide +kernel
theorem dX8_isItem_29 : decode cX8_isItem 29 = .ok (.aload_n 0, 1) := by decide +kernel
theorem dX8_isItem_30 : decode cX8_isItem 30 = .ok (.getfield 34, 3) := by decide +kernel
theorem dX8_isItem_33 : decode cX8_isItem 33 = .ok (.iconst 0, 1) := by decide +kernel
theorem dX8_isItem_34 : decode cX8_isItem 34 = .ok (.iaload, 1) := by decide +kernel
theorem dX8_isItem_35 : decode cX8_isItem 35 = .ok (.aload_n 0, 1) := by decide +kernel
theorem dX8_isItem_36 : decode cX8_isItem 36 = .ok (.getfield 34, 3) := by decide +kernel
theorem dX8_isItem_39 : decode cX8_isItem 39 = .ok (.iconst 1, 1) := by decide +kernel
theorem dX8_isItem_40 : decode cX8_isItem 40 = .ok (.iaload, 1) := by decide +kernel
theorem dX8_isItem_41 : decode cX8_isItem 41 = .ok (.aload_n 0, 1) := by decide +kernel
theorem dX8_isItem_42 : decode cX8_isItem 42 = .ok (.getfield 34, 3) := by decide +kernel
theorem dX8_isItem_45 : decode cX8_isItem 45 = .ok (.iconst 2, 1) := by decide +kernel
theorem dX8_isItem_46 : decode cX8_isItem 46 = .ok (.iaload, 1) := by decide +kernel
theorem dX8_isItem_47 : decode cX8_isItem 47 = .ok (.aload_n 0, 1) := by decide +kernel
theorem dX8_isItem_48 : decode cX8_isItem 48 = .ok (.getfield 34, 3) := by decide +kernel
theorem dX8_isItem_51 : decode cX8_isItem 51 = .ok (.iconst 3, 1) := by decide +kernel
theorem dX8_isItem_52 : decode cX8_isItem 52 = .ok (.iaload, 1) := by decide +kernel
theorem dX8_isItem_53 : decode cX8_isItem 53 = .ok (.invokevirtual 47, 3) := by decide +kernel
theorem dX8_isItem_56 : decode cX8_isItem 56 = .ok (.iconst 1, 1) := by decide +kernel
theorem dX8_isItem_57 : decode cX8_isItem 57 = .ok (.ireturn, 1) := by decide +kernel
theorem dX8_isItem_58 : decode cX8_isItem 58 = .ok (.aload_n 0, 1) := by decide +kernel
theorem dX8_isItem_59 : decode cX8_isItem 59 = .ok (.bipush 120, 2) := by decide +kernel
theorem dX8_isItem_61 : decode cX8_isItem 61 = .ok (.invokevirtual 64, 3) := by decide +kernel
theorem dX8_isItem_64 : decode cX8_isItem 64 = .ok (.ifCond .eq 35, 3) := by decide +kernel
theorem dX8_isItem_67 : decode cX8_isItem 67 = .ok (.aload_n 0, 1) := by decide +kernel
theorem dX8_isItem_68 : decode cX8_isItem 68 = .ok (.iconst 2, 1) := by decide +kernel
theorem dX8_isItem_69 : decode cX8_isItem 69 = .ok (.invokevirtual 72, 3) := by decide +kernel
theorem dX8_isItem_72 : decode cX8_isItem 72 = .ok (.istore_n 1, 1) := by decide +kernel
theorem dX8_isItem_73 : decode cX8_isItem 73 = .ok (.aload_n 0, 1) := by decide +kernel
theorem dX8_isItem_74 : decode cX8_isItem 74 = .ok (.getfield 28, 3) := by decide +kernel
theorem dX8_isItem_77 : decode cX8_isItem 77 = .ok (.iconst 0, 1) := by decide +kernel
theorem dX8_isItem_78 : decode cX8_isItem 78 = .ok (.aload_n 0, 1) := by decide +kernel
theorem dX8_isItem_79 : decode cX8_isItem 79 = .ok (.getfield 34, 3) := by decide +kernel
theorem dX8_isItem_82 : decode cX8_isItem 82 = .ok (.iconst 0, 1) := by decide +kernel
theorem dX8_isItem_83 : decode cX8_isItem 83 = .ok (.iaload, 1) := by decide +kernel
theorem dX8_isItem_84 : decode cX8_isItem 84 = .ok (.iastore, 1) := by decide +kernel
theorem dX8_isItem_85 : decode cX8_isItem 85 = .ok (.aload_n 0, 1) := by decide +kernel
theorem dX8_isItem_86 : decode cX8_isItem 86 = .ok (.getfield 28, 3) := by decide +kernel
theorem dX8_isItem_89 : decode cX8_isItem 89 = .ok (.iconst 1, 1) := by decide +kernel
theorem dX8_isItem_90 : decode cX8_isItem 90 = .ok (.aload_n 0, 1) := by decide +kernel
theorem dX8_isItem_91 : decode cX8_isItem 91 = .ok (.getfield 34, 3) := by decide +kernel
theorem dX8_isItem_94 : decode cX8_isItem 94 = .ok (.iconst 1, 1) := by decide +kernel
theorem dX8_isItem_95 : decode cX8_isItem 95 = .ok (.iaload, 1) := by decide +kernel
theorem dX8_isItem_96 : decode cX8_isItem 96 = .ok (.iastore, 1) := by decide +kernel
theorem dX8_isItem_97 : decode cX8_isItem 97 = .ok (.iload_n 1, 1) := by decide +kernel
theorem dX8_isItem_98 : decode cX8_isItem 98 = .ok (.ireturn, 1) := by decide +kernel
theorem dX8_isItem_99 : decode cX8_isItem 99 = .ok (.aload_n 0, 1) := by decide +kernel
theorem dX8_isItem_100 : decode cX8_isItem 100 = .ok (.bipush 109, 2) := by decide +kernel
theorem dX8_isItem_102 : decode cX8_isItem 102 = .ok (.invokevirtual 64, 3) := by decide +kernel
theorem dX8_isItem_105 : decode cX8_isItem 105 = .ok (.ifCond .eq 26, 3) := by decide +kernel
theorem dX8_isItem_108 : decode cX8_isItem 108 = .ok (.aload_n 0, 1) := by decide +kernel
theorem dX8_isItem_109 : decode cX8_isItem 109 = .ok (.iconst 3, 1) := by decide +kernel
theorem dX8_isItem_110 : decode cX8_isItem 110 = .ok (.invokevirtual 72, 3) := by decide +kernel
theorem dX8_isItem_113 : decode cX8_isItem 113 = .ok (.ifCond .eq 18, 3) := by decide +kernel
theorem dX8_isItem_116 : decode cX8_isItem 116 = .ok (.aload_n 0, 1) := by decide +kernel
theorem dX8_isItem_117 : decode cX8_isItem 117 = .ok (.getfield 34, 3) := by decide +kernel
theorem dX8_isItem_120 : decode cX8_isItem 120 = .ok (.iconst 0, 1) := by decide +kernel
theorem dX8_isItem_121 : decode cX8_isItem 121 = .ok (.iaload, 1) := by decide +kernel
theorem dX8_isItem_122 : decode cX8_isItem 122 = .ok (.iconst 1, 1) := by decide +kernel
theorem dX8_isItem_123 : decode cX8_isItem 123 = .ok (.bipush 6, 2) := by decide +kernel
theorem dX8_isItem_125 : decode cX8_isItem 125 = .ok (.invokestatic 68, 3) := by decide +kernel
theorem dX8_isItem_128 : decode cX8_isItem 128 = .ok (.ifCond .ne 5, 3) := by decide +kernel
theorem dX8_isItem_131 : decode cX8_isItem 131 = .ok (.iconst 0, 1) := by decide +kernel
theorem dX8_isItem_132 : decode cX8_isItem 132 = .ok (.ireturn, 1) := by decide +kernel
theorem dX8_isItem_133 : decode cX8_isItem 133 = .ok (.iconst 0, 1) := by decide +kernel
theorem dX8_isItem_134 : decode cX8_isItem 134 = .ok (.istore_n 1, 1) := by decide +kernel
theorem dX8_isItem_135 : decode cX8_isItem 135 = .ok (.iload_n 1, 1) := by decide +kernel
theorem dX8_isItem_136 : decode cX8_isItem 136 = .ok (.iconst 3, 1) := by decide +kernel
theorem dX8_isItem_137 : decode cX8_isItem 137 = .ok (.if_icmp .ge 21, 3) := by decide +kernel
theorem dX8_isItem_140 : decode cX8_isItem 140 = .ok (.aload_n 0, 1) := by decide +kernel
theorem dX8_isItem_141 : decode cX8_isItem 141 = .ok (.getfield 31, 3) := by decide +kernel
theorem dX8_isItem_144 : decode cX8_isItem 144 = .ok (.iload_n 1, 1) := by decide +kernel
theorem dX8_isItem_145 : decode cX8_isItem 145 = .ok (.aload_n 0, 1) := by decide +kernel
theorem dX8_isItem_146 : decode cX8_isItem 146 = .ok (.getfield 34, 3) := by decide +kernel
theorem dX8_isItem_149 : decode cX8_isItem 149 = .ok (.iload_n 1, 1) := by decide +kernel
theorem dX8_isItem_150 : decode cX8_isItem 150 = .ok (.iaload, 1) := by decide +kernel
theorem dX8_isItem_151 : decode cX8_isItem 151 = .ok (.iastore, 1) := by decide +kernel
theorem dX8_isItem_152 : decode cX8_isItem 152 = .ok (.iinc 1 1, 3) := by decide +kernel
theorem dX8_isItem_155 : decode cX8_isItem 155 = .ok (.goto (-20), 3) := by decide +kernel
theorem dX8_isItem_158 : decode cX8_isItem 158 = .ok (.iconst 1, 1) := by decide +kernel
theorem dX8_isItem_159 : decode cX8_isItem 159 = .ok (.ireturn, 1) := by decide +kernel
set_option maxRecDepth 20000 in
theorem ggX8_faultAt_X8_clearsPlan : GoodIn wsX8_faultAt wsX8_clearsPlan := goodIn_r _ [7, 8, 9, 10, 33, 34, 35, 36, 37, 38, 39, 40, 41, 42, 43, 44, 45, 46, 47, 48, 49, 50] (by decide +kernel) (by decide +kernel)
set_option maxRecDepth 20000 in
theorem gX8_faultAt_X8_clearsPlan : GoodIn wsX8_faultAt (wsV RX8 44 RX8 yX8_clearsPlan wsX8_clearsPlan) := goodIn_app (goodIn_of _ (by decide +kernel)) ggX8_faultAt_X8_clearsPlan
set_option maxRecDepth 20000 in
theorem ggX8_faultAt_X8_isItem : GoodIn wsX8_faultAt wsX8_isItem := goodIn_r _ [14, 8, 15, 9, 10, 16, 17, 18, 6, 19, 1, 2, 20, 21, 22, 23, 24, 25, 26, 27, 28, 29, 30, 31, 32, 33, 34, 35, 36, 37, 38, 39, 40, 41, 42, 43, 44, 45, 46, 47, 48, 49, 50] (by decide +kernel) (by decide +kernel)
set_option maxRecDepth 20000 in
theorem gX8_faultAt_X8_isItem : GoodIn wsX8_faultAt (wsV RX8 75 RX8 yX8_isItem wsX8_isItem) := goodIn_app (goodIn_of _ (by decide +kernel)) ggX8_faultAt_X8_isItem
theorem dX8_faultAt_0 : decode cX8_faultAt 0 = .ok (.aload_n 0, 1) := by decide +kernel
theorem dX8_faultAt_1 : decode cX8_faultAt 1 = .ok (.invokevirtual 44, 3) := by decide +kernel
theorem dX8_faultAt_4 : decode cX8_faultAt 4 = .ok (.aload_n 0, 1) := by decide +kernel
theorem dX8_faultAt_5 : decode cX8_faultAt 5 = .ok (.iconst 0, 1) := by decide +kernel
theorem dX8_faultAt_6 : decode cX8_faultAt 6 = .ok (.putfield 58, 3) := by decide +kernel
theorem dX8_faultAt_9 : decode cX8_faultAt 9 = .ok (.aload_n 0, 1) := by decide +kernel
theorem dX8_faultAt_10 : decode cX8_faultAt 10 = .ok (.getfield 58, 3) := by decide +kernel
theorem dX8_faultAt_13 : decode cX8_faultAt 13 = .ok (.aload_n 0, 1) := by decide +kernel
theorem dX8_faultAt_14 : decode cX8_faultAt 14 = .ok (.getfield 61, 3) := by decide +kernel
theorem dX8_faultAt_17 : decode cX8_faultAt 17 = .ok (.if_icmp .ge 20, 3) := by decide +kernel
theorem dX8_faultAt_20 : decode cX8_faultAt 20 = .ok (.aload_n 0, 1) := by decide +kernel
theorem dX8_faultAt_21 : decode cX8_faultAt 21 = .ok (.getfield 58, 3) := by decide +kernel
theorem dX8_faultAt_24 : decode cX8_faultAt 24 = .ok (.istore_n 1, 1) := by decide +kernel
theorem dX8_faultAt_25 : decode cX8_faultAt 25 = .ok (.aload_n 0, 1) := by decide +kernel
theorem dX8_faultAt_26 : decode cX8_faultAt 26 = .ok (.invokevirtual 75, 3) := by decide +kernel
theorem dX8_faultAt_29 : decode cX8_faultAt 29 = .ok (.ifCond .ne 5, 3) := by decide +kernel
theorem dX8_faultAt_32 : decode cX8_faultAt 32 = .ok (.iload_n 1, 1) := by decide +kernel
theorem dX8_faultAt_33 : decode cX8_faultAt 33 = .ok (.ireturn, 1) := by decide +kernel
theorem dX8_faultAt_34 : decode cX8_faultAt 34 = .ok (.goto (-25), 3) := by decide +kernel
theorem dX8_faultAt_37 : decode cX8_faultAt 37 = .ok (.bipush (-4), 2) := by decide +kernel
theorem dX8_faultAt_39 : decode cX8_faultAt 39 = .ok (.ireturn, 1) := by decide +kernel
set_option maxRecDepth 20000 in
theorem ggX8_write_X8_within : GoodIn wsX8_write wsX8_within := goodIn_r _ [6] (by decide +kernel) (by decide +kernel)
set_option maxRecDepth 20000 in
theorem gX8_write_X8_within : GoodIn wsX8_write (va_wsS RX8 68 yX8_within wsX8_within) := goodIn_app (goodIn_of _ (by decide +kernel)) ggX8_write_X8_within
theorem dX8_write_0 : decode cX8_write 0 = .ok (.iload_n 1, 1) := by decide +kernel
theorem dX8_write_1 : decode cX8_write 1 = .ok (.bipush 32, 2) := by decide +kernel
theorem dX8_write_3 : decode cX8_write 3 = .ok (.bipush 126, 2) := by decide +kernel
theorem dX8_write_5 : decode cX8_write 5 = .ok (.invokestatic 68, 3) := by decide +kernel
theorem dX8_write_8 : decode cX8_write 8 = .ok (.ifCond .ne 5, 3) := by decide +kernel
theorem dX8_write_11 : decode cX8_write 11 = .ok (.iconst (-1), 1) := by decide +kernel
theorem dX8_write_12 : decode cX8_write 12 = .ok (.ireturn, 1) := by decide +kernel
theorem dX8_write_13 : decode cX8_write 13 = .ok (.aload_n 0, 1) := by decide +kernel
theorem dX8_write_14 : decode cX8_write 14 = .ok (.getfield 61, 3) := by decide +kernel
theorem dX8_write_17 : decode cX8_write 17 = .ok (.sipush 200, 3) := by decide +kernel
theorem dX8_write_20 : decode cX8_write 20 = .ok (.if_icmp .ne 6, 3) := by decide +kernel
theorem dX8_write_23 : decode cX8_write 23 = .ok (.bipush (-3), 2) := by decide +kernel
theorem dX8_write_25 : decode cX8_write 25 = .ok (.ireturn, 1) := by decide +kernel
theorem dX8_write_26 : decode cX8_write 26 = .ok (.aload_n 0, 1) := by decide +kernel
theorem dX8_write_27 : decode cX8_write 27 = .ok (.getfield 22, 3) := by decide +kernel
theorem dX8_write_30 : decode cX8_write 30 = .ok (.aload_n 0, 1) := by decide +kernel
theorem dX8_write_31 : decode cX8_write 31 = .ok (.getfield 61, 3) := by decide +kernel
theorem dX8_write_34 : decode cX8_write 34 = .ok (.iload_n 1, 1) := by decide +kernel
theorem dX8_write_35 : decode cX8_write 35 = .ok (.iastore, 1) := by decide +kernel
theorem dX8_write_36 : decode cX8_write 36 = .ok (.aload_n 0, 1) := by decide +kernel
theorem dX8_write_37 : decode cX8_write 37 = .ok (.dup, 1) := by decide +kernel
theorem dX8_write_38 : decode cX8_write 38 = .ok (.getfield 61, 3) := by decide +kernel
theorem dX8_write_41 : decode cX8_write 41 = .ok (.iconst 1, 1) := by decide +kernel
theorem dX8_write_42 : decode cX8_write 42 = .ok (.iadd, 1) := by decide +kernel
theorem dX8_write_43 : decode cX8_write 43 = .ok (.putfield 61, 3) := by decide +kernel
theorem dX8_write_46 : decode cX8_write 46 = .ok (.aload_n 0, 1) := by decide +kernel
theorem dX8_write_47 : decode cX8_write 47 = .ok (.getfield 61, 3) := by decide +kernel
theorem dX8_write_50 : decode cX8_write 50 = .ok (.ireturn, 1) := by decide +kernel
theorem dX8_wipe_0 : decode cX8_wipe 0 = .ok (.aload_n 0, 1) := by decide +kernel
theorem dX8_wipe_1 : decode cX8_wipe 1 = .ok (.getfield 61, 3) := by decide +kernel
theorem dX8_wipe_4 : decode cX8_wipe 4 = .ok (.istore_n 1, 1) := by decide +kernel
theorem dX8_wipe_5 : decode cX8_wipe 5 = .ok (.aload_n 0, 1) := by decide +kernel
theorem dX8_wipe_6 : decode cX8_wipe 6 = .ok (.iconst 0, 1) := by decide +kernel
theorem dX8_wipe_7 : decode cX8_wipe 7 = .ok (.putfield 61, 3) := by decide +kernel
theorem dX8_wipe_10 : decode cX8_wipe 10 = .ok (.iload_n 1, 1) := by decide +kernel
theorem dX8_wipe_11 : decode cX8_wipe 11 = .ok (.ireturn, 1) := by decide +kernel
set_option maxRecDepth 20000 in
theorem ggX8_fault_X8_faultAt : GoodIn wsX8_fault wsX8_faultAt := goodIn_r _ [5, 6, 7, 8, 9, 10, 4, 11, 12, 13, 14, 15, 16, 17, 18, 19, 20, 21, 22, 23, 24, 25, 26, 27, 28, 29, 30, 31, 32, 33, 34, 35, 36, 37, 38, 39, 40, 41, 42, 43, 44, 45, 46, 47, 48, 49, 50, 51, 52, 53, 54] (by decide +kernel) (by decide +kernel)
set_option maxRecDepth 20000 in
theorem gX8_fault_X8_faultAt : GoodIn wsX8_fault (wsV RX8 79 RX8 yX8_faultAt wsX8_faultAt) := goodIn_app (goodIn_of _ (by decide +kernel)) ggX8_fault_X8_faultAt
theorem dX8_fault_0 : decode cX8_fault 0 = .ok (.aload_n 0, 1) := by decide +kernel
theorem dX8_fault_1 : decode cX8_fault 1 = .ok (.invokevirtual 79, 3) := by decide +kernel
theorem dX8_fault_4 : decode cX8_fault 4 = .ok (.ireturn, 1) := by decide +kernel
theorem dX8_place_0 : decode cX8_place 0 = .ok (.bipush 42, 2) := by decide +kernel
theorem dX8_place_2 : decode cX8_place 2 = .ok (.bipush 16, 2) := by decide +kernel
theorem dX8_place_4 : decode cX8_place 4 = .ok (.bipush 6, 2) := by decide +kernel
theorem dX8_place_6 : decode cX8_place 6 = .ok (.iload_n 0, 1) := by decide +kernel
theorem dX8_place_7 : decode cX8_place 7 = .ok (.imul, 1) := by decide +kernel
theorem dX8_place_8 : decode cX8_place 8 = .ok (.iload_n 1, 1) := by decide +kernel
theorem dX8_place_9 : decode cX8_place 9 = .ok (.iadd, 1) := by decide +kernel
theorem dX8_place_10 : decode cX8_place 10 = .ok (.imul, 1) := by decide +kernel
theorem dX8_place_11 : decode cX8_place 11 = .ok (.iadd, 1) := by decide +kernel
theorem dX8_place_12 : decode cX8_place 12 = .ok (.ireturn, 1) := by decide +kernel
set_option maxRecDepth 20000 in
theorem ggX8_lays_X8_place : GoodIn wsX8_lays wsX8_place := goodIn_r _ [14] (by decide +kernel) (by decide +kernel)
set_option maxRecDepth 20000 in
theorem gX8_lays_X8_place : GoodIn wsX8_lays (va_wsS RX8 92 yX8_place wsX8_place) := goodIn_app (goodIn_of _ (by decide +kernel)) ggX8_lays_X8_place
theorem dX8_lays_0 : decode cX8_lays 0 = .ok (.aload_n 0, 1) := by decide +kernel
theorem dX8_lays_1 : decode cX8_lays 1 = .ok (.aload_n 0, 1) := by decide +kernel
theorem dX8_lays_2 : decode cX8_lays 2 = .ok (.getfield 54, 3) := by decide +kernel
theorem dX8_lays_5 : decode cX8_lays 5 = .ok (.putfield 83, 3) := by decide +kernel
theorem dX8_lays_8 : decode cX8_lays 8 = .ok (.aload_n 0, 1) := by decide +kernel
theorem dX8_lays_9 : decode cX8_lays 9 = .ok (.aload_n 0, 1) := by decide +kernel
theorem dX8_lays_10 : decode cX8_lays 10 = .ok (.getfield 31, 3) := by decide +kernel
theorem dX8_lays_13 : decode cX8_lays 13 = .ok (.iconst 1, 1) := by decide +kernel
theorem dX8_lays_14 : decode cX8_lays 14 = .ok (.iaload, 1) := by decide +kernel
theorem dX8_lays_15 : decode cX8_lays 15 = .ok (.putfield 86, 3) := by decide +kernel
theorem dX8_lays_18 : decode cX8_lays 18 = .ok (.aload_n 0, 1) := by decide +kernel
theorem dX8_lays_19 : decode cX8_lays 19 = .ok (.aload_n 0, 1) := by decide +kernel
theorem dX8_lays_20 : decode cX8_lays 20 = .ok (.getfield 31, 3) := by decide +kernel
theorem dX8_lays_23 : decode cX8_lays 23 = .ok (.iconst 2, 1) := by decide +kernel
theorem dX8_lays_24 : decode cX8_lays 24 = .ok (.iaload, 1) := by decide +kernel
theorem dX8_lays_25 : decode cX8_lays 25 = .ok (.putfield 89, 3) := by decide +kernel
theorem dX8_lays_28 : decode cX8_lays 28 = .ok (.iconst 0, 1) := by decide +kernel
theorem dX8_lays_29 : decode cX8_lays 29 = .ok (.istore_n 1, 1) := by decide +kernel
theorem dX8_lays_30 : decode cX8_lays 30 = .ok (.iload_n 1, 1) := by decide +kernel
theorem dX8_lays_31 : decode cX8_lays 31 = .ok (.sipush 235, 3) := by decide +kernel
theorem dX8_lays_34 : decode cX8_lays 34 = .ok (.if_icmp .ge 16, 3) := by decide +kernel
theorem dX8_lays_37 : decode cX8_lays 37 = .ok (.aload_n 0, 1) := by decide +kernel
theorem dX8_lays_38 : decode cX8_lays 38 = .ok (.getfield 7, 3) := by decide +kernel
theorem dX8_lays_41 : decode cX8_lays 41 = .ok (.iload_n 1, 1) := by decide +kernel
theorem dX8_lays_42 : decode cX8_lays 42 = .ok (.iconst 0, 1) := by decide +kernel
theorem dX8_lays_43 : decode cX8_lays 43 = .ok (.iastore, 1) := by decide +kernel
theorem dX8_lays_44 : decode cX8_lays 44 = .ok (.iinc 1 1, 3) := by decide +kernel
theorem dX8_lays_47 : decode cX8_lays 47 = .ok (.goto (-17), 3) := by decide +kernel
theorem dX8_lays_50 : decode cX8_lays 50 = .ok (.aload_n 0, 1) := by decide +kernel
theorem dX8_lays_51 : decode cX8_lays 51 = .ok (.getfield 7, 3) := by decide +kernel
theorem dX8_lays_54 : decode cX8_lays 54 = .ok (.iconst 0, 1) := by decide +kernel
theorem dX8_lays_55 : decode cX8_lays 55 = .ok (.aload_n 0, 1) := by decide +kernel
theorem dX8_lays_56 : decode cX8_lays 56 = .ok (.getfield 28, 3) := by decide +kernel
theorem dX8_lays_59 : decode cX8_lays 59 = .ok (.iconst 0, 1) := by decide +kernel
theorem dX8_lays_60 : decode cX8_lays 60 = .ok (.iaload, 1) := by decide +kernel
theorem dX8_lays_61 : decode cX8_lays 61 = .ok (.iastore, 1) := by decide +kernel
theorem dX8_lays_62 : decode cX8_lays 62 = .ok (.aload_n 0, 1) := by decide +kernel
theorem dX8_lays_63 : decode cX8_lays 63 = .ok (.getfield 7, 3) := by decide +kernel
theorem dX8_lays_66 : decode cX8_lays 66 = .ok (.iconst 1, 1) := by decide +kernel
theorem dX8_lays_67 : decode cX8_lays 67 = .ok (.aload_n 0, 1) := by decide +kernel
theorem dX8_lays_68 : decode cX8_lays 68 = .ok (.getfield 28, 3) := by decide +kernel
theorem dX8_lays_71 : decode cX8_lays 71 = .ok (.iconst 1, 1) := by decide +kernel
theorem dX8_lays_72 : decode cX8_lays 72 = .ok (.iaload, 1) := by decide +kernel
theorem dX8_lays_73 : decode cX8_lays 73 = .ok (.iastore, 1) := by decide +kernel
theorem dX8_lays_74 : decode cX8_lays 74 = .ok (.aload_n 0, 1) := by decide +kernel
theorem dX8_lays_75 : decode cX8_lays 75 = .ok (.getfield 7, 3) := by decide +kernel
theorem dX8_lays_78 : decode cX8_lays 78 = .ok (.iconst 2, 1) := by decide +kernel
theorem dX8_lays_79 : decode cX8_lays 79 = .ok (.aload_n 0, 1) := by decide +kernel
theorem dX8_lays_80 : decode cX8_lays 80 = .ok (.getfield 31, 3) := by decide +kernel
theorem dX8_lays_83 : decode cX8_lays 83 = .ok (.iconst 0, 1) := by decide +kernel
theorem dX8_lays_84 : decode cX8_lays 84 = .ok (.iaload, 1) := by decide +kernel
theorem dX8_lays_85 : decode cX8_lays 85 = .ok (.iastore, 1) := by decide +kernel
theorem dX8_lays_86 : decode cX8_lays 86 = .ok (.iconst 0, 1) := by decide +kernel
theorem dX8_lays_87 : decode cX8_lays 87 = .ok (.istore_n 1, 1) := by decide +kernel
theorem dX8_lays_88 : decode cX8_lays 88 = .ok (.iload_n 1, 1) := by decide +kernel
theorem dX8_lays_89 : decode cX8_lays 89 = .ok (.bipush 16, 2) := by decide +kernel
theorem dX8_lays_91 : decode cX8_lays 91 = .ok (.if_icmp .ge 22, 3) := by decide +kernel
theorem dX8_lays_94 : decode cX8_lays 94 = .ok (.aload_n 0, 1) := by decide +kernel
theorem dX8_lays_95 : decode cX8_lays 95 = .ok (.getfield 7, 3) := by decide +kernel
theorem dX8_lays_98 : decode cX8_lays 98 = .ok (.bipush 10, 2) := by decide +kernel
theorem dX8_lays_100 : decode cX8_lays 100 = .ok (.iconst 2, 1) := by decide +kernel
theorem dX8_lays_101 : decode cX8_lays 101 = .ok (.iload_n 1, 1) := by decide +kernel
theorem dX8_lays_102 : decode cX8_lays 102 = .ok (.imul, 1) := by decide +kernel
theorem dX8_lays_103 : decode cX8_lays 103 = .ok (.iadd, 1) := by decide +kernel
theorem dX8_lays_104 : decode cX8_lays 104 = .ok (.bipush (-4), 2) := by decide +kernel
theorem dX8_lays_106 : decode cX8_lays 106 = .ok (.iastore, 1) := by decide +kernel
theorem dX8_lays_107 : decode cX8_lays 107 = .ok (.iinc 1 1, 3) := by decide +kernel
theorem dX8_lays_110 : decode cX8_lays 110 = .ok (.goto (-22), 3) := by decide +kernel
theorem dX8_lays_113 : decode cX8_lays 113 = .ok (.iconst 0, 1) := by decide +kernel
theorem dX8_lays_114 : decode cX8_lays 114 = .ok (.istore_n 1, 1) := by decide +kernel
theorem dX8_lays_115 : decode cX8_lays 115 = .ok (.iload_n 1, 1) := by decide +kernel
theorem dX8_lays_116 : decode cX8_lays 116 = .ok (.bipush 6, 2) := by decide +kernel
theorem dX8_lays_118 : decode cX8_lays 118 = .ok (.if_icmp .ge 147, 3) := by decide +kernel
theorem dX8_lays_121 : decode cX8_lays 121 = .ok (.aload_n 0, 1) := by decide +kernel
theorem dX8_lays_122 : decode cX8_lays 122 = .ok (.getfield 7, 3) := by decide +kernel
theorem dX8_lays_125 : decode cX8_lays 125 = .ok (.iconst 4, 1) := by decide +kernel
theorem dX8_lays_126 : decode cX8_lays 126 = .ok (.iload_n 1, 1) := by decide +kernel
theorem dX8_lays_127 : decode cX8_lays 127 = .ok (.iadd, 1) := by decide +kernel
theorem dX8_lays_128 : decode cX8_lays 128 = .ok (.iconst 1, 1) := by decide +kernel
theorem dX8_lays_129 : decode cX8_lays 129 = .ok (.iastore, 1) := by decide +kernel
theorem dX8_lays_130 : decode cX8_lays 130 = .ok (.iconst 0, 1) := by decide +kernel
theorem dX8_lays_131 : decode cX8_lays 131 = .ok (.istore_n 2, 1) := by decide +kernel
theorem dX8_lays_132 : decode cX8_lays 132 = .ok (.iload_n 2, 1) := by decide +kernel
theorem dX8_lays_133 : decode cX8_lays 133 = .ok (.iconst 2, 1) := by decide +kernel
theorem dX8_lays_134 : decode cX8_lays 134 = .ok (.if_icmp .ge 125, 3) := by decide +kernel
theorem dX8_lays_137 : decode cX8_lays 137 = .ok (.iload_n 2, 1) := by decide +kernel
theorem dX8_lays_138 : decode cX8_lays 138 = .ok (.iload_n 1, 1) := by decide +kernel
theorem dX8_lays_139 : decode cX8_lays 139 = .ok (.invokestatic 92, 3) := by decide +kernel
theorem dX8_lays_142 : decode cX8_lays 142 = .ok (.istore_n 3, 1) := by decide +kernel
theorem dX8_lays_143 : decode cX8_lays 143 = .ok (.aload_n 0, 1) := by decide +kernel
theorem dX8_lays_144 : decode cX8_lays 144 = .ok (.getfield 7, 3) := by decide +kernel
theorem dX8_lays_147 : decode cX8_lays 147 = .ok (.iload_n 3, 1) := by decide +kernel
theorem dX8_lays_148 : decode cX8_lays 148 = .ok (.iconst 0, 1) := by decide +kernel
theorem dX8_lays_149 : decode cX8_lays 149 = .ok (.iadd, 1) := by decide +kernel
theorem dX8_lays_150 : decode cX8_lays 150 = .ok (.iload_n 1, 1) := by decide +kernel
theorem dX8_lays_151 : decode cX8_lays 151 = .ok (.aload_n 0, 1) := by decide +kernel
theorem dX8_lays_152 : decode cX8_lays 152 = .ok (.getfield 83, 3) := by decide +kernel
theorem dX8_lays_155 : decode cX8_lays 155 = .ok (.if_icmp .ge 18, 3) := by decide +kernel
theorem dX8_lays_158 : decode cX8_lays 158 = .ok (.aload_n 0, 1) := by decide +kernel
theorem dX8_lays_159 : decode cX8_lays 159 = .ok (.getfield 25, 3) := by decide +kernel
theorem dX8_lays_162 : decode cX8_lays 162 = .ok (.iconst 4, 1) := by decide +kernel
theorem dX8_lays_163 : decode cX8_lays 163 = .ok (.iload_n 1, 1) := by decide +kernel
theorem dX8_lays_164 : decode cX8_lays 164 = .ok (.imul, 1) := by decide +kernel
theorem dX8_lays_165 : decode cX8_lays 165 = .ok (.iconst 2, 1) := by decide +kernel
theorem dX8_lays_166 : decode cX8_lays 166 = .ok (.iload_n 2, 1) := by decide +kernel
theorem dX8_lays_167 : decode cX8_lays 167 = .ok (.imul, 1) := by decide +kernel
theorem dX8_lays_168 : decode cX8_lays 168 = .ok (.iadd, 1) := by decide +kernel
theorem dX8_lays_169 : decode cX8_lays 169 = .ok (.iaload, 1) := by decide +kernel
theorem dX8_lays_170 : decode cX8_lays 170 = .ok (.goto 4, 3) := by decide +kernel
theorem dX8_lays_173 : decode cX8_lays 173 = .ok (.iconst 0, 1) := by decide +kernel
theorem dX8_lays_174 : decode cX8_lays 174 = .ok (.iastore, 1) := by decide +kernel
theorem dX8_lays_175 : decode cX8_lays 175 = .ok (.aload_n 0, 1) := by decide +kernel
theorem dX8_lays_176 : decode cX8_lays 176 = .ok (.getfield 7, 3) := by decide +kernel
theorem dX8_lays_179 : decode cX8_lays 179 = .ok (.iload_n 3, 1) := by decide +kernel
theorem dX8_lays_180 : decode cX8_lays 180 = .ok (.iconst 1, 1) := by decide +kernel
theorem dX8_lays_181 : decode cX8_lays 181 = .ok (.iadd, 1) := by decide +kernel
theorem dX8_lays_182 : decode cX8_lays 182 = .ok (.iload_n 1, 1) := by decide +kernel
theorem dX8_lays_183 : decode cX8_lays 183 = .ok (.aload_n 0, 1) := by decide +kernel
theorem dX8_lays_184 : decode cX8_lays 184 = .ok (.getfield 83, 3) := by decide +kernel
theorem dX8_lays_187 : decode cX8_lays 187 = .ok (.if_icmp .ge 20, 3) := by decide +kernel
theorem dX8_lays_190 : decode cX8_lays 190 = .ok (.aload_n 0, 1) := by decide +kernel
theorem dX8_lays_191 : decode cX8_lays 191 = .ok (.getfield 25, 3) := by decide +kernel
theorem dX8_lays_194 : decode cX8_lays 194 = .ok (.iconst 4, 1) := by decide +kernel
theorem dX8_lays_195 : decode cX8_lays 195 = .ok (.iload_n 1, 1) := by decide +kernel
theorem dX8_lays_196 : decode cX8_lays 196 = .ok (.imul, 1) := by decide +kernel
theorem dX8_lays_197 : decode cX8_lays 197 = .ok (.iconst 2, 1) := by decide +kernel
theorem dX8_lays_198 : decode cX8_lays 198 = .ok (.iload_n 2, 1) := by decide +kernel
theorem dX8_lays_199 : decode cX8_lays 199 = .ok (.imul, 1) := by decide +kernel
theorem dX8_lays_200 : decode cX8_lays 200 = .ok (.iadd, 1) := by decide +kernel
theorem dX8_lays_201 : decode cX8_lays 201 = .ok (.iconst 1, 1) := by decide +kernel
theorem dX8_lays_202 : decode cX8_lays 202 = .ok (.iadd, 1) := by decide +kernel
theorem dX8_lays_203 : decode cX8_lays 203 = .ok (.iaload, 1) := by decide +kernel
theorem dX8_lays_204 : decode cX8_lays 204 = .ok (.goto 4, 3) := by decide +kernel
theorem dX8_lays_207 : decode cX8_lays 207 = .ok (.iconst 0, 1) := by decide +kernel
theorem dX8_lays_208 : decode cX8_lays 208 = .ok (.iastore, 1) := by decide +kernel
theorem dX8_lays_209 : decode cX8_lays 209 = .ok (.aload_n 0, 1) := by decide +kernel
theorem dX8_lays_210 : decode cX8_lays 210 = .ok (.getfield 7, 3) := by decide +kernel
theorem dX8_lays_213 : decode cX8_lays 213 = .ok (.iload_n 3, 1) := by decide +kernel
theorem dX8_lays_214 : decode cX8_lays 214 = .ok (.bipush 8, 2) := by decide +kernel
theorem dX8_lays_216 : decode cX8_lays 216 = .ok (.iadd, 1) := by decide +kernel
theorem dX8_lays_217 : decode cX8_lays 217 = .ok (.bipush (-4), 2) := by decide +kernel
theorem dX8_lays_219 : decode cX8_lays 219 = .ok (.iastore, 1) := by decide +kernel
theorem dX8_lays_220 : decode cX8_lays 220 = .ok (.aload_n 0, 1) := by decide +kernel
theorem dX8_lays_221 : decode cX8_lays 221 = .ok (.getfield 7, 3) := by decide +kernel
theorem dX8_lays_224 : decode cX8_lays 224 = .ok (.iload_n 3, 1) := by decide +kernel
theorem dX8_lays_225 : decode cX8_lays 225 = .ok (.bipush 13, 2) := by decide +kernel
theorem dX8_lays_227 : decode cX8_lays 227 = .ok (.iadd, 1) := by decide +kernel
theorem dX8_lays_228 : decode cX8_lays 228 = .ok (.bipush (-4), 2) := by decide +kernel
theorem dX8_lays_230 : decode cX8_lays 230 = .ok (.iastore, 1) := by decide +kernel
theorem dX8_lays_231 : decode cX8_lays 231 = .ok (.aload_n 0, 1) := by decide +kernel
theorem dX8_lays_232 : decode cX8_lays 232 = .ok (.getfield 7, 3) := by decide +kernel
theorem dX8_lays_235 : decode cX8_lays 235 = .ok (.iload_n 3, 1) := by decide +kernel
theorem dX8_lays_236 : decode cX8_lays 236 = .ok (.bipush 14, 2) := by decide +kernel
theorem dX8_lays_238 : decode cX8_lays 238 = .ok (.iadd, 1) := by decide +kernel
theorem dX8_lays_239 : decode cX8_lays 239 = .ok (.iconst 1, 1) := by decide +kernel
theorem dX8_lays_240 : decode cX8_lays 240 = .ok (.iastore, 1) := by decide +kernel
theorem dX8_lays_241 : decode cX8_lays 241 = .ok (.aload_n 0, 1) := by decide +kernel
theorem dX8_lays_242 : decode cX8_lays 242 = .ok (.getfield 19, 3) := by decide +kernel
theorem dX8_lays_245 : decode cX8_lays 245 = .ok (.bipush 6, 2) := by decide +kernel
theorem dX8_lays_247 : decode cX8_lays 247 = .ok (.iload_n 2, 1) := by decide +kernel
theorem dX8_lays_248 : decode cX8_lays 248 = .ok (.imul, 1) := by decide +kernel
theorem dX8_lays_249 : decode cX8_lays 249 = .ok (.iload_n 1, 1) := by decide +kernel
theorem dX8_lays_250 : decode cX8_lays 250 = .ok (.iadd, 1) := by decide +kernel
theorem dX8_lays_251 : decode cX8_lays 251 = .ok (.iconst 0, 1) := by decide +kernel
theorem dX8_lays_252 : decode cX8_lays 252 = .ok (.iastore, 1) := by decide +kernel
theorem dX8_lays_253 : decode cX8_lays 253 = .ok (.iinc 2 1, 3) := by decide +kernel
theorem dX8_lays_256 : decode cX8_lays 256 = .ok (.goto (-124), 3) := by decide +kernel
theorem dX8_lays_259 : decode cX8_lays 259 = .ok (.iinc 1 1, 3) := by decide +kernel
theorem dX8_lays_262 : decode cX8_lays 262 = .ok (.goto (-147), 3) := by decide +kernel
theorem dX8_lays_265 : decode cX8_lays 265 = .ok (.aload_n 0, 1) := by decide +kernel
theorem dX8_lays_266 : decode cX8_lays 266 = .ok (.iconst 0, 1) := by decide +kernel
theorem dX8_lays_267 : decode cX8_lays 267 = .ok (.putfield 96, 3) := by decide +kernel
theorem dX8_lays_270 : decode cX8_lays 270 = .ok (.return_, 1) := by decide +kernel
set_option maxRecDepth 20000 in
theorem ggX8_lay_X8_faultAt : GoodIn wsX8_lay wsX8_faultAt := goodIn_r _ [7, 8, 9, 10, 11, 12, 6, 13, 1, 14, 15, 16, 17, 18, 19, 20, 21, 22, 23, 24, 25, 26, 27, 28, 29, 30, 31, 32, 33, 34, 35, 36, 37, 50, 51, 52, 53, 54, 55, 56, 57, 58, 59, 60, 61, 62, 63, 64, 65, 66, 67] (by decide +kernel) (by decide +kernel)
set_option maxRecDepth 20000 in
theorem gX8_lay_X8_faultAt : GoodIn wsX8_lay (wsV RX8 79 RX8 yX8_faultAt wsX8_faultAt) := goodIn_app (goodIn_of _ (by decide +kernel)) ggX8_lay_X8_faultAt
set_option maxRecDepth 20000 in
theorem ggX8_lay_X8_lays : GoodIn wsX8_lay wsX8_lays := goodIn_r _ [41, 1, 2, 15, 42, 43, 44, 14, 37, 45, 46, 47, 48, 6, 49, 50, 51, 52, 53, 54, 55, 56, 57, 58, 59, 60, 61, 62, 63, 64, 65, 66, 67] (by decide +kernel) (by decide +kernel)
set_option maxRecDepth 20000 in
theorem gX8_lay_X8_lays : GoodIn wsX8_lay (wsV RX8 51 RX8 yX8_lays wsX8_lays) := goodIn_app (goodIn_of _ (by decide +kernel)) ggX8_lay_X8_lays
theorem dX8_lay_0 : decode cX8_lay 0 = .ok (.aload_n 0, 1) := by decide +kernel
theorem dX8_lay_1 : decode cX8_lay 1 = .ok (.invokevirtual 79, 3) := by decide +kernel
theorem dX8_lay_4 : decode cX8_lay 4 = .ok (.bipush (-4), 2) := by decide +kernel
theorem dX8_lay_6 : decode cX8_lay 6 = .ok (.if_icmp .ne 10, 3) := by decide +kernel
theorem dX8_lay_9 : decode cX8_lay 9 = .ok (.aload_n 0, 1) := by decide +kernel
theorem dX8_lay_10 : decode cX8_lay 10 = .ok (.getfield 54, 3) := by decide +kernel
theorem dX8_lay_13 : decode cX8_lay 13 = .ok (.ifCond .ne 6, 3) := by decide +kernel
theorem dX8_lay_16 : decode cX8_lay 16 = .ok (.bipush (-2), 2) := by decide +kernel
theorem dX8_lay_18 : decode cX8_lay 18 = .ok (.ireturn, 1) := by decide +kernel
theorem dX8_lay_19 : decode cX8_lay 19 = .ok (.aload_n 0, 1) := by decide +kernel
theorem dX8_lay_20 : decode cX8_lay 20 = .ok (.invokevirtual 51, 3) := by decide +kernel
theorem dX8_lay_23 : decode cX8_lay 23 = .ok (.aload_n 0, 1) := by decide +kernel
theorem dX8_lay_24 : decode cX8_lay 24 = .ok (.getfield 83, 3) := by decide +kernel
theorem dX8_lay_27 : decode cX8_lay 27 = .ok (.ireturn, 1) := by decide +kernel
theorem dX8_isEnd_0 : decode cX8_isEnd 0 = .ok (.iload_n 0, 1) := by decide +kernel
theorem dX8_isEnd_1 : decode cX8_isEnd 1 = .ok (.ifCond .eq 8, 3) := by decide +kernel
theorem dX8_isEnd_4 : decode cX8_isEnd 4 = .ok (.iload_n 0, 1) := by decide +kernel
theorem dX8_isEnd_5 : decode cX8_isEnd 5 = .ok (.iconst 1, 1) := by decide +kernel
theorem dX8_isEnd_6 : decode cX8_isEnd 6 = .ok (.if_icmp .ne 7, 3) := by decide +kernel
theorem dX8_isEnd_9 : decode cX8_isEnd 9 = .ok (.iconst 1, 1) := by decide +kernel
theorem dX8_isEnd_10 : decode cX8_isEnd 10 = .ok (.goto 4, 3) := by decide +kernel
theorem dX8_isEnd_13 : decode cX8_isEnd 13 = .ok (.iconst 0, 1) := by decide +kernel
theorem dX8_isEnd_14 : decode cX8_isEnd 14 = .ok (.ireturn, 1) := by decide +kernel
set_option maxRecDepth 20000 in
theorem ggX8_isLink_X8_within : GoodIn wsX8_isLink wsX8_within := goodIn_r _ [5] (by decide +kernel) (by decide +kernel)
set_option maxRecDepth 20000 in
theorem gX8_isLink_X8_within : GoodIn wsX8_isLink (va_wsS RX8 68 yX8_within wsX8_within) := goodIn_app (goodIn_of _ (by decide +kernel)) ggX8_isLink_X8_within
theorem dX8_isLink_0 : decode cX8_isLink 0 = .ok (.iload_n 1, 1) := by decide +kernel
theorem dX8_isLink_1 : decode cX8_isLink 1 = .ok (.iconst 0, 1) := by decide +kernel
theorem dX8_isLink_2 : decode cX8_isLink 2 = .ok (.aload_n 0, 1) := by decide +kernel
theorem dX8_isLink_3 : decode cX8_isLink 3 = .ok (.getfield 83, 3) := by decide +kernel
theorem dX8_isLink_6 : decode cX8_isLink 6 = .ok (.iconst 1, 1) := by decide +kernel
theorem dX8_isLink_7 : decode cX8_isLink 7 = .ok (.isub, 1) := by decide +kernel
theorem dX8_isLink_8 : decode cX8_isLink 8 = .ok (.invokestatic 68, 3) := by decide +kernel
theorem dX8_isLink_11 : decode cX8_isLink 11 = .ok (.ireturn, 1) := by decide +kernel
theorem dX8_keeps_0 : decode cX8_keeps 0 = .ok (.aload_n 0, 1) := by decide +kernel
theorem dX8_keeps_1 : decode cX8_keeps 1 = .ok (.getfield 96, 3) := by decide +kernel
theorem dX8_keeps_4 : decode cX8_keeps 4 = .ok (.bipush 6, 2) := by decide +kernel
theorem dX8_keeps_6 : decode cX8_keeps 6 = .ok (.if_icmp .ne 44, 3) := by decide +kernel
theorem dX8_keeps_9 : decode cX8_keeps 9 = .ok (.iconst 0, 1) := by decide +kernel
theorem dX8_keeps_10 : decode cX8_keeps 10 = .ok (.istore_n 1, 1) := by decide +kernel
theorem dX8_keeps_11 : decode cX8_keeps 11 = .ok (.iload_n 1, 1) := by decide +kernel
theorem dX8_keeps_12 : decode cX8_keeps 12 = .ok (.sipush 1175, 3) := by decide +kernel
theorem dX8_keeps_15 : decode cX8_keeps 15 = .ok (.if_icmp .ge 25, 3) := by decide +kernel
theorem dX8_keeps_18 : decode cX8_keeps 18 = .ok (.aload_n 0, 1) := by decide +kernel
theorem dX8_keeps_19 : decode cX8_keeps 19 = .ok (.getfield 16, 3) := by decide +kernel
theorem dX8_keeps_22 : decode cX8_keeps 22 = .ok (.iload_n 1, 1) := by decide +kernel
theorem dX8_keeps_23 : decode cX8_keeps 23 = .ok (.aload_n 0, 1) := by decide +kernel
theorem dX8_keeps_24 : decode cX8_keeps 24 = .ok (.getfield 16, 3) := by decide +kernel
theorem dX8_keeps_27 : decode cX8_keeps 27 = .ok (.iload_n 1, 1) := by decide +kernel
theorem dX8_keeps_28 : decode cX8_keeps 28 = .ok (.sipush 235, 3) := by decide +kernel
theorem dX8_keeps_31 : decode cX8_keeps 31 = .ok (.iadd, 1) := by decide +kernel
theorem dX8_keeps_32 : decode cX8_keeps 32 = .ok (.iaload, 1) := by decide +kernel
theorem dX8_keeps_33 : decode cX8_keeps 33 = .ok (.iastore, 1) := by decide +kernel
theorem dX8_keeps_34 : decode cX8_keeps 34 = .ok (.iinc 1 1, 3) := by decide +kernel
theorem dX8_keeps_37 : decode cX8_keeps 37 = .ok (.goto (-26), 3) := by decide +kernel
theorem dX8_keeps_40 : decode cX8_keeps 40 = .ok (.aload_n 0, 1) := by decide +kernel
theorem dX8_keeps_41 : decode cX8_keeps 41 = .ok (.dup, 1) := by decide +kernel
theorem dX8_keeps_42 : decode cX8_keeps 42 = .ok (.getfield 96, 3) := by decide +kernel
theorem dX8_keeps_45 : decode cX8_keeps 45 = .ok (.iconst 1, 1) := by decide +kernel
theorem dX8_keeps_46 : decode cX8_keeps 46 = .ok (.isub, 1) := by decide +kernel
theorem dX8_keeps_47 : decode cX8_keeps 47 = .ok (.putfield 96, 3) := by decide +kernel
theorem dX8_keeps_50 : decode cX8_keeps 50 = .ok (.iconst 0, 1) := by decide +kernel
theorem dX8_keeps_51 : decode cX8_keeps 51 = .ok (.istore_n 1, 1) := by decide +kernel
theorem dX8_keeps_52 : decode cX8_keeps 52 = .ok (.iload_n 1, 1) := by decide +kernel
theorem dX8_keeps_53 : decode cX8_keeps 53 = .ok (.sipush 235, 3) := by decide +kernel
theorem dX8_keeps_56 : decode cX8_keeps 56 = .ok (.if_icmp .ge 30, 3) := by decide +kernel
theorem dX8_keeps_59 : decode cX8_keeps 59 = .ok (.aload_n 0, 1) := by decide +kernel
theorem dX8_keeps_60 : decode cX8_keeps 60 = .ok (.getfield 16, 3) := by decide +kernel
theorem dX8_keeps_63 : decode cX8_keeps 63 = .ok (.sipush 235, 3) := by decide +kernel
theorem dX8_keeps_66 : decode cX8_keeps 66 = .ok (.aload_n 0, 1) := by decide +kernel
theorem dX8_keeps_67 : decode cX8_keeps 67 = .ok (.getfield 96, 3) := by decide +kernel
theorem dX8_keeps_70 : decode cX8_keeps 70 = .ok (.imul, 1) := by decide +kernel
theorem dX8_keeps_71 : decode cX8_keeps 71 = .ok (.iload_n 1, 1) := by decide +kernel
theorem dX8_keeps_72 : decode cX8_keeps 72 = .ok (.iadd, 1) := by decide +kernel
theorem dX8_keeps_73 : decode cX8_keeps 73 = .ok (.aload_n 0, 1) := by decide +kernel
theorem dX8_keeps_74 : decode cX8_keeps 74 = .ok (.getfield 7, 3) := by decide +kernel
theorem dX8_keeps_77 : decode cX8_keeps 77 = .ok (.iload_n 1, 1) := by decide +kernel
theorem dX8_keeps_78 : decode cX8_keeps 78 = .ok (.iaload, 1) := by decide +kernel
theorem dX8_keeps_79 : decode cX8_keeps 79 = .ok (.iastore, 1) := by decide +kernel
theorem dX8_keeps_80 : decode cX8_keeps 80 = .ok (.iinc 1 1, 3) := by decide +kernel
theorem dX8_keeps_83 : decode cX8_keeps 83 = .ok (.goto (-31), 3) := by decide +kernel
theorem dX8_keeps_86 : decode cX8_keeps 86 = .ok (.aload_n 0, 1) := by decide +kernel
theorem dX8_keeps_87 : decode cX8_keeps 87 = .ok (.dup, 1) := by decide +kernel
theorem dX8_keeps_88 : decode cX8_keeps 88 = .ok (.getfield 96, 3) := by decide +kernel
theorem dX8_keeps_91 : decode cX8_keeps 91 = .ok (.iconst 1, 1) := by decide +kernel
theorem dX8_keeps_92 : decode cX8_keeps 92 = .ok (.iadd, 1) := by decide +kernel
theorem dX8_keeps_93 : decode cX8_keeps 93 = .ok (.putfield 96, 3) := by decide +kernel
theorem dX8_keeps_96 : decode cX8_keeps 96 = .ok (.return_, 1) := by decide +kernel
theorem dX8_upMany_0 : decode cX8_upMany 0 = .ok (.iconst 0, 1) := by decide +kernel
theorem dX8_upMany_1 : decode cX8_upMany 1 = .ok (.istore_n 1, 1) := by decide +kernel
theorem dX8_upMany_2 : decode cX8_upMany 2 = .ok (.iconst 0, 1) := by decide +kernel
theorem dX8_upMany_3 : decode cX8_upMany 3 = .ok (.istore_n 2, 1) := by decide +kernel
theorem dX8_upMany_4 : decode cX8_upMany 4 = .ok (.iload_n 2, 1) := by decide +kernel
theorem dX8_upMany_5 : decode cX8_upMany 5 = .ok (.aload_n 0, 1) := by decide +kernel
theorem dX8_upMany_6 : decode cX8_upMany 6 = .ok (.getfield 83, 3) := by decide +kernel
theorem dX8_upMany_9 : decode cX8_upMany 9 = .ok (.if_icmp .ge 20, 3) := by decide +kernel
theorem dX8_upMany_12 : decode cX8_upMany 12 = .ok (.iload_n 1, 1) := by decide +kernel
theorem dX8_upMany_13 : decode cX8_upMany 13 = .ok (.aload_n 0, 1) := by decide +kernel
theorem dX8_upMany_14 : decode cX8_upMany 14 = .ok (.getfield 7, 3) := by decide +kernel
theorem dX8_upMany_17 : decode cX8_upMany 17 = .ok (.iconst 4, 1) := by decide +kernel
theorem dX8_upMany_18 : decode cX8_upMany 18 = .ok (.iload_n 2, 1) := by decide +kernel
theorem dX8_upMany_19 : decode cX8_upMany 19 = .ok (.iadd, 1) := by decide +kernel
theorem dX8_upMany_20 : decode cX8_upMany 20 = .ok (.iaload, 1) := by decide +kernel
theorem dX8_upMany_21 : decode cX8_upMany 21 = .ok (.iadd, 1) := by decide +kernel
theorem dX8_upMany_22 : decode cX8_upMany 22 = .ok (.istore_n 1, 1) := by decide +kernel
theorem dX8_upMany_23 : decode cX8_upMany 23 = .ok (.iinc 2 1, 3) := by decide +kernel
theorem dX8_upMany_26 : decode cX8_upMany 26 = .ok (.goto (-22), 3) := by decide +kernel
theorem dX8_upMany_29 : decode cX8_upMany 29 = .ok (.iload_n 1, 1) := by decide +kernel
theorem dX8_upMany_30 : decode cX8_upMany 30 = .ok (.ireturn, 1) := by decide +kernel
set_option maxRecDepth 20000 in
theorem ggX8_plug_X8_isLink : GoodIn wsX8_plug wsX8_isLink := goodIn_r _ [6, 7, 8, 9, 5, 10, 21, 22, 23, 24, 25, 26, 27, 28, 29, 30, 31, 32, 33, 34, 35, 36, 37, 38] (by decide +kernel) (by decide +kernel)
set_option maxRecDepth 20000 in
theorem gX8_plug_X8_isLink : GoodIn wsX8_plug (wsV RX8 99 RX8 yX8_isLink wsX8_isLink) := goodIn_app (goodIn_of _ (by decide +kernel)) ggX8_plug_X8_isLink
set_option maxRecDepth 20000 in
theorem ggX8_plug_X8_within : GoodIn wsX8_plug wsX8_within := goodIn_r _ [10] (by decide +kernel) (by decide +kernel)
set_option maxRecDepth 20000 in
theorem gX8_plug_X8_within : GoodIn wsX8_plug (va_wsS RX8 68 yX8_within wsX8_within) := goodIn_app (goodIn_of _ (by decide +kernel)) ggX8_plug_X8_within
set_option maxRecDepth 20000 in
theorem ggX8_plug_X8_keeps : GoodIn wsX8_plug wsX8_keeps := goodIn_r _ [14, 15, 16, 1, 21, 22, 23, 24, 25, 26, 27, 28, 29, 30, 31, 32, 33, 34, 35, 36, 37, 38] (by decide +kernel) (by decide +kernel)
set_option maxRecDepth 20000 in
theorem gX8_plug_X8_keeps : GoodIn wsX8_plug (wsV RX8 102 RX8 yX8_keeps wsX8_keeps) := goodIn_app (goodIn_of _ (by decide +kernel)) ggX8_plug_X8_keeps
set_option maxRecDepth 20000 in
theorem ggX8_plug_X8_upMany : GoodIn wsX8_plug wsX8_upMany := goodIn_r _ [20, 7, 1, 21, 22, 23, 24, 25, 26, 27, 28, 29, 30, 31, 32, 33, 34, 35, 36, 37, 38] (by decide +kernel) (by decide +kernel)
set_option maxRecDepth 20000 in
theorem gX8_plug_X8_upMany : GoodIn wsX8_plug (wsV RX8 105 RX8 yX8_upMany wsX8_upMany) := goodIn_app (goodIn_of _ (by decide +kernel)) ggX8_plug_X8_upMany
theorem dX8_plug_0 : decode cX8_plug 0 = .ok (.aload_n 0, 1) := by decide +kernel
theorem dX8_plug_1 : decode cX8_plug 1 = .ok (.iload_n 1, 1) := by decide +kernel
theorem dX8_plug_2 : decode cX8_plug 2 = .ok (.invokevirtual 99, 3) := by decide +kernel
theorem dX8_plug_5 : decode cX8_plug 5 = .ok (.ifCond .eq 12, 3) := by decide +kernel
theorem dX8_plug_8 : decode cX8_plug 8 = .ok (.iload_n 2, 1) := by decide +kernel
theorem dX8_plug_9 : decode cX8_plug 9 = .ok (.iconst 0, 1) := by decide +kernel
theorem dX8_plug_10 : decode cX8_plug 10 = .ok (.iconst 1, 1) := by decide +kernel
theorem dX8_plug_11 : decode cX8_plug 11 = .ok (.invokestatic 68, 3) := by decide +kernel
theorem dX8_plug_14 : decode cX8_plug 14 = .ok (.ifCond .ne 5, 3) := by decide +kernel
theorem dX8_plug_17 : decode cX8_plug 17 = .ok (.iconst (-1), 1) := by decide +kernel
theorem dX8_plug_18 : decode cX8_plug 18 = .ok (.ireturn, 1) := by decide +kernel
theorem dX8_plug_19 : decode cX8_plug 19 = .ok (.aload_n 0, 1) := by decide +kernel
theorem dX8_plug_20 : decode cX8_plug 20 = .ok (.getfield 7, 3) := by decide +kernel
theorem dX8_plug_23 : decode cX8_plug 23 = .ok (.iconst 4, 1) := by decide +kernel
theorem dX8_plug_24 : decode cX8_plug 24 = .ok (.iload_n 1, 1) := by decide +kernel
theorem dX8_plug_25 : decode cX8_plug 25 = .ok (.iadd, 1) := by decide +kernel
theorem dX8_plug_26 : decode cX8_plug 26 = .ok (.iaload, 1) := by decide +kernel
theorem dX8_plug_27 : decode cX8_plug 27 = .ok (.iload_n 2, 1) := by decide +kernel
theorem dX8_plug_28 : decode cX8_plug 28 = .ok (.if_icmp .ne 6, 3) := by decide +kernel
theorem dX8_plug_31 : decode cX8_plug 31 = .ok (.bipush (-2), 2) := by decide +kernel
theorem dX8_plug_33 : decode cX8_plug 33 = .ok (.ireturn, 1) := by decide +kernel
theorem dX8_plug_34 : decode cX8_plug 34 = .ok (.aload_n 0, 1) := by decide +kernel
theorem dX8_plug_35 : decode cX8_plug 35 = .ok (.invokevirtual 102, 3) := by decide +kernel
theorem dX8_plug_38 : decode cX8_plug 38 = .ok (.aload_n 0, 1) := by decide +kernel
theorem dX8_plug_39 : decode cX8_plug 39 = .ok (.getfield 7, 3) := by decide +kernel
theorem dX8_plug_42 : decode cX8_plug 42 = .ok (.iconst 4, 1) := by decide +kernel
theorem dX8_plug_43 : decode cX8_plug 43 = .ok (.iload_n 1, 1) := by decide +kernel
theorem dX8_plug_44 : decode cX8_plug 44 = .ok (.iadd, 1) := by decide +kernel
