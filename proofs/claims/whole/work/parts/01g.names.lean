theorem dX8_wants_61 : decode cX8_wants 61 = .ok (.aload_n 0, 1) := by decide +kernel
theorem dX8_wants_62 : decode cX8_wants 62 = .ok (.getfield 83, 3) := by decide +kernel
theorem dX8_wants_65 : decode cX8_wants 65 = .ok (.if_icmp .ge 30, 3) := by decide +kernel
theorem dX8_wants_68 : decode cX8_wants 68 = .ok (.aload_n 0, 1) := by decide +kernel
theorem dX8_wants_69 : decode cX8_wants 69 = .ok (.iload_n 1, 1) := by decide +kernel
theorem dX8_wants_70 : decode cX8_wants 70 = .ok (.iload 5, 2) := by decide +kernel
theorem dX8_wants_72 : decode cX8_wants 72 = .ok (.invokevirtual 138, 3) := by decide +kernel
theorem dX8_wants_75 : decode cX8_wants 75 = .ok (.ifCond .eq 14, 3) := by decide +kernel
theorem dX8_wants_78 : decode cX8_wants 78 = .ok (.iload 4, 2) := by decide +kernel
theorem dX8_wants_80 : decode cX8_wants 80 = .ok (.ifCond .ne 6, 3) := by decide +kernel
theorem dX8_wants_83 : decode cX8_wants 83 = .ok (.iload 5, 2) := by decide +kernel
theorem dX8_wants_85 : decode cX8_wants 85 = .ok (.ireturn, 1) := by decide +kernel
theorem dX8_wants_86 : decode cX8_wants 86 = .ok (.iinc 4 (-1), 3) := by decide +kernel
theorem dX8_wants_89 : decode cX8_wants 89 = .ok (.iinc 5 1, 3) := by decide +kernel
theorem dX8_wants_92 : decode cX8_wants 92 = .ok (.goto (-33), 3) := by decide +kernel
theorem dX8_wants_95 : decode cX8_wants 95 = .ok (.bipush (-4), 2) := by decide +kernel
theorem dX8_wants_97 : decode cX8_wants 97 = .ok (.ireturn, 1) := by decide +kernel
set_option maxRecDepth 20000 in
theorem ggX8_deals_X8_wants : GoodIn wsX8_deals wsX8_wants := goodIn_r _ [7, 8, 9, 10, 11, 6, 12, 1, 13, 14, 15, 16, 17, 18, 19, 20, 21, 22, 23, 24, 25, 26, 27, 28, 29, 30, 31, 32, 33] (by decide +kernel) (by decide +kernel)
set_option maxRecDepth 20000 in
theorem gX8_deals_X8_wants : GoodIn wsX8_deals (wsV RX8 141 RX8 yX8_wants wsX8_wants) := goodIn_app (goodIn_of _ (by decide +kernel)) ggX8_deals_X8_wants
theorem dX8_deals_0 : decode cX8_deals 0 = .ok (.bipush 10, 2) := by decide +kernel
theorem dX8_deals_2 : decode cX8_deals 2 = .ok (.iconst 2, 1) := by decide +kernel
theorem dX8_deals_3 : decode cX8_deals 3 = .ok (.bipush 8, 2) := by decide +kernel
theorem dX8_deals_5 : decode cX8_deals 5 = .ok (.iload_n 1, 1) := by decide +kernel
theorem dX8_deals_6 : decode cX8_deals 6 = .ok (.imul, 1) := by decide +kernel
theorem dX8_deals_7 : decode cX8_deals 7 = .ok (.iload_n 2, 1) := by decide +kernel
theorem dX8_deals_8 : decode cX8_deals 8 = .ok (.iadd, 1) := by decide +kernel
theorem dX8_deals_9 : decode cX8_deals 9 = .ok (.imul, 1) := by decide +kernel
theorem dX8_deals_10 : decode cX8_deals 10 = .ok (.iadd, 1) := by decide +kernel
theorem dX8_deals_11 : decode cX8_deals 11 = .ok (.istore_n 3, 1) := by decide +kernel
theorem dX8_deals_12 : decode cX8_deals 12 = .ok (.aload_n 0, 1) := by decide +kernel
theorem dX8_deals_13 : decode cX8_deals 13 = .ok (.iload_n 1, 1) := by decide +kernel
theorem dX8_deals_14 : decode cX8_deals 14 = .ok (.iload_n 2, 1) := by decide +kernel
theorem dX8_deals_15 : decode cX8_deals 15 = .ok (.invokevirtual 141, 3) := by decide +kernel
theorem dX8_deals_18 : decode cX8_deals 18 = .ok (.istore 4, 2) := by decide +kernel
theorem dX8_deals_20 : decode cX8_deals 20 = .ok (.aload_n 0, 1) := by decide +kernel
theorem dX8_deals_21 : decode cX8_deals 21 = .ok (.getfield 7, 3) := by decide +kernel
theorem dX8_deals_24 : decode cX8_deals 24 = .ok (.iload_n 3, 1) := by decide +kernel
theorem dX8_deals_25 : decode cX8_deals 25 = .ok (.iconst 1, 1) := by decide +kernel
theorem dX8_deals_26 : decode cX8_deals 26 = .ok (.iadd, 1) := by decide +kernel
theorem dX8_deals_27 : decode cX8_deals 27 = .ok (.iaload, 1) := by decide +kernel
theorem dX8_deals_28 : decode cX8_deals 28 = .ok (.ifCond .le 46, 3) := by decide +kernel
theorem dX8_deals_31 : decode cX8_deals 31 = .ok (.aload_n 0, 1) := by decide +kernel
theorem dX8_deals_32 : decode cX8_deals 32 = .ok (.getfield 7, 3) := by decide +kernel
theorem dX8_deals_35 : decode cX8_deals 35 = .ok (.iload_n 3, 1) := by decide +kernel
theorem dX8_deals_36 : decode cX8_deals 36 = .ok (.iconst 1, 1) := by decide +kernel
theorem dX8_deals_37 : decode cX8_deals 37 = .ok (.iadd, 1) := by decide +kernel
theorem dX8_deals_38 : decode cX8_deals 38 = .ok (.dup2, 1) := by decide +kernel
theorem dX8_deals_39 : decode cX8_deals 39 = .ok (.iaload, 1) := by decide +kernel
theorem dX8_deals_40 : decode cX8_deals 40 = .ok (.iconst 1, 1) := by decide +kernel
theorem dX8_deals_41 : decode cX8_deals 41 = .ok (.isub, 1) := by decide +kernel
theorem dX8_deals_42 : decode cX8_deals 42 = .ok (.iastore, 1) := by decide +kernel
theorem dX8_deals_43 : decode cX8_deals 43 = .ok (.aload_n 0, 1) := by decide +kernel
theorem dX8_deals_44 : decode cX8_deals 44 = .ok (.getfield 7, 3) := by decide +kernel
theorem dX8_deals_47 : decode cX8_deals 47 = .ok (.iload_n 3, 1) := by decide +kernel
theorem dX8_deals_48 : decode cX8_deals 48 = .ok (.aload_n 0, 1) := by decide +kernel
theorem dX8_deals_49 : decode cX8_deals 49 = .ok (.getfield 7, 3) := by decide +kernel
theorem dX8_deals_52 : decode cX8_deals 52 = .ok (.iload_n 3, 1) := by decide +kernel
theorem dX8_deals_53 : decode cX8_deals 53 = .ok (.iconst 1, 1) := by decide +kernel
theorem dX8_deals_54 : decode cX8_deals 54 = .ok (.iadd, 1) := by decide +kernel
theorem dX8_deals_55 : decode cX8_deals 55 = .ok (.iaload, 1) := by decide +kernel
theorem dX8_deals_56 : decode cX8_deals 56 = .ok (.ifCond .ne 8, 3) := by decide +kernel
theorem dX8_deals_59 : decode cX8_deals 59 = .ok (.iload 4, 2) := by decide +kernel
theorem dX8_deals_61 : decode cX8_deals 61 = .ok (.goto 9, 3) := by decide +kernel
theorem dX8_deals_64 : decode cX8_deals 64 = .ok (.aload_n 0, 1) := by decide +kernel
theorem dX8_deals_65 : decode cX8_deals 65 = .ok (.getfield 7, 3) := by decide +kernel
theorem dX8_deals_68 : decode cX8_deals 68 = .ok (.iload_n 3, 1) := by decide +kernel
theorem dX8_deals_69 : decode cX8_deals 69 = .ok (.iaload, 1) := by decide +kernel
theorem dX8_deals_70 : decode cX8_deals 70 = .ok (.iastore, 1) := by decide +kernel
theorem dX8_deals_71 : decode cX8_deals 71 = .ok (.goto 62, 3) := by decide +kernel
theorem dX8_deals_74 : decode cX8_deals 74 = .ok (.iload 4, 2) := by decide +kernel
theorem dX8_deals_76 : decode cX8_deals 76 = .ok (.aload_n 0, 1) := by decide +kernel
theorem dX8_deals_77 : decode cX8_deals 77 = .ok (.getfield 7, 3) := by decide +kernel
theorem dX8_deals_80 : decode cX8_deals 80 = .ok (.iload_n 3, 1) := by decide +kernel
theorem dX8_deals_81 : decode cX8_deals 81 = .ok (.iaload, 1) := by decide +kernel
theorem dX8_deals_82 : decode cX8_deals 82 = .ok (.if_icmp .eq 51, 3) := by decide +kernel
theorem dX8_deals_85 : decode cX8_deals 85 = .ok (.aload_n 0, 1) := by decide +kernel
theorem dX8_deals_86 : decode cX8_deals 86 = .ok (.getfield 7, 3) := by decide +kernel
theorem dX8_deals_89 : decode cX8_deals 89 = .ok (.iload_n 3, 1) := by decide +kernel
theorem dX8_deals_90 : decode cX8_deals 90 = .ok (.iaload, 1) := by decide +kernel
theorem dX8_deals_91 : decode cX8_deals 91 = .ok (.bipush (-4), 2) := by decide +kernel
theorem dX8_deals_93 : decode cX8_deals 93 = .ok (.if_icmp .eq 17, 3) := by decide +kernel
theorem dX8_deals_96 : decode cX8_deals 96 = .ok (.iload 4, 2) := by decide +kernel
theorem dX8_deals_98 : decode cX8_deals 98 = .ok (.bipush (-4), 2) := by decide +kernel
theorem dX8_deals_100 : decode cX8_deals 100 = .ok (.if_icmp .eq 10, 3) := by decide +kernel
theorem dX8_deals_103 : decode cX8_deals 103 = .ok (.aload_n 0, 1) := by decide +kernel
theorem dX8_deals_104 : decode cX8_deals 104 = .ok (.getfield 89, 3) := by decide +kernel
theorem dX8_deals_107 : decode cX8_deals 107 = .ok (.ifCond .ne 14, 3) := by decide +kernel
theorem dX8_deals_110 : decode cX8_deals 110 = .ok (.aload_n 0, 1) := by decide +kernel
theorem dX8_deals_111 : decode cX8_deals 111 = .ok (.getfield 7, 3) := by decide +kernel
theorem dX8_deals_114 : decode cX8_deals 114 = .ok (.iload_n 3, 1) := by decide +kernel
theorem dX8_deals_115 : decode cX8_deals 115 = .ok (.iload 4, 2) := by decide +kernel
theorem dX8_deals_117 : decode cX8_deals 117 = .ok (.iastore, 1) := by decide +kernel
theorem dX8_deals_118 : decode cX8_deals 118 = .ok (.goto 15, 3) := by decide +kernel
theorem dX8_deals_121 : decode cX8_deals 121 = .ok (.aload_n 0, 1) := by decide +kernel
theorem dX8_deals_122 : decode cX8_deals 122 = .ok (.getfield 7, 3) := by decide +kernel
theorem dX8_deals_125 : decode cX8_deals 125 = .ok (.iload_n 3, 1) := by decide +kernel
theorem dX8_deals_126 : decode cX8_deals 126 = .ok (.iconst 1, 1) := by decide +kernel
theorem dX8_deals_127 : decode cX8_deals 127 = .ok (.iadd, 1) := by decide +kernel
theorem dX8_deals_128 : decode cX8_deals 128 = .ok (.aload_n 0, 1) := by decide +kernel
theorem dX8_deals_129 : decode cX8_deals 129 = .ok (.getfield 89, 3) := by decide +kernel
theorem dX8_deals_132 : decode cX8_deals 132 = .ok (.iastore, 1) := by decide +kernel
theorem dX8_deals_133 : decode cX8_deals 133 = .ok (.return_, 1) := by decide +kernel
set_option maxRecDepth 20000 in
theorem ggX8_ticks_X8_comes : GoodIn wsX8_ticks wsX8_comes := goodIn_r _ [7, 1, 8, 9, 6, 10, 11, 12, 13, 14, 62, 63, 64, 65, 66, 67, 68, 69, 70, 71, 72, 73, 74, 75, 76, 77, 78, 79] (by decide +kernel) (by decide +kernel)
set_option maxRecDepth 20000 in
theorem gX8_ticks_X8_comes : GoodIn wsX8_ticks (wsV RX8 144 RX8 yX8_comes wsX8_comes) := goodIn_app (goodIn_of _ (by decide +kernel)) ggX8_ticks_X8_comes
set_option maxRecDepth 20000 in
theorem ggX8_ticks_X8_becomesHow : GoodIn wsX8_ticks wsX8_becomesHow := goodIn_r _ [18, 2, 1, 19, 20, 21, 22, 6, 23, 24, 25, 26, 27, 28, 29, 30, 31, 8, 9, 10, 32, 33, 34, 35, 36, 37, 38, 39, 40, 41, 42, 43, 44, 62, 63, 64, 65, 66, 67, 68, 69, 70, 71, 72, 73, 74, 75, 76, 77, 78, 79] (by decide +kernel) (by decide +kernel)
set_option maxRecDepth 20000 in
theorem gX8_ticks_X8_becomesHow : GoodIn wsX8_ticks (wsV RX8 148 RX8 yX8_becomesHow wsX8_becomesHow) := goodIn_app (goodIn_of _ (by decide +kernel)) ggX8_ticks_X8_becomesHow
set_option maxRecDepth 20000 in
theorem ggX8_ticks_X8_sends : GoodIn wsX8_ticks wsX8_sends := goodIn_r _ [48, 1, 8, 9, 6, 10, 62, 63, 64, 65, 66, 67, 68, 69, 70, 71, 72, 73, 74, 75, 76, 77, 78, 79] (by decide +kernel) (by decide +kernel)
set_option maxRecDepth 20000 in
theorem gX8_ticks_X8_sends : GoodIn wsX8_ticks (wsV RX8 151 RX8 yX8_sends wsX8_sends) := goodIn_app (goodIn_of _ (by decide +kernel)) ggX8_ticks_X8_sends
set_option maxRecDepth 20000 in
theorem ggX8_ticks_X8_deals : GoodIn wsX8_ticks wsX8_deals := goodIn_r _ [52, 1, 53, 54, 55, 56, 6, 57, 2, 58, 59, 60, 61, 8, 9, 10, 62, 63, 64, 65, 66, 67, 68, 69, 70, 71, 72, 73, 74, 75, 76, 77, 78, 79] (by decide +kernel) (by decide +kernel)
set_option maxRecDepth 20000 in
theorem gX8_ticks_X8_deals : GoodIn wsX8_ticks (wsV RX8 154 RX8 yX8_deals wsX8_deals) := goodIn_app (goodIn_of _ (by decide +kernel)) ggX8_ticks_X8_deals
theorem dX8_ticks_0 : decode cX8_ticks 0 = .ok (.aload_n 0, 1) := by decide +kernel
theorem dX8_ticks_1 : decode cX8_ticks 1 = .ok (.getfield 7, 3) := by decide +kernel
theorem dX8_ticks_4 : decode cX8_ticks 4 = .ok (.iconst 3, 1) := by decide +kernel
theorem dX8_ticks_5 : decode cX8_ticks 5 = .ok (.dup2, 1) := by decide +kernel
theorem dX8_ticks_6 : decode cX8_ticks 6 = .ok (.iaload, 1) := by decide +kernel
theorem dX8_ticks_7 : decode cX8_ticks 7 = .ok (.iconst 1, 1) := by decide +kernel
theorem dX8_ticks_8 : decode cX8_ticks 8 = .ok (.iadd, 1) := by decide +kernel
theorem dX8_ticks_9 : decode cX8_ticks 9 = .ok (.iastore, 1) := by decide +kernel
theorem dX8_ticks_10 : decode cX8_ticks 10 = .ok (.iconst 0, 1) := by decide +kernel
theorem dX8_ticks_11 : decode cX8_ticks 11 = .ok (.istore_n 1, 1) := by decide +kernel
theorem dX8_ticks_12 : decode cX8_ticks 12 = .ok (.iload_n 1, 1) := by decide +kernel
theorem dX8_ticks_13 : decode cX8_ticks 13 = .ok (.iconst 2, 1) := by decide +kernel
theorem dX8_ticks_14 : decode cX8_ticks 14 = .ok (.aload_n 0, 1) := by decide +kernel
theorem dX8_ticks_15 : decode cX8_ticks 15 = .ok (.getfield 83, 3) := by decide +kernel
theorem dX8_ticks_18 : decode cX8_ticks 18 = .ok (.imul, 1) := by decide +kernel
theorem dX8_ticks_19 : decode cX8_ticks 19 = .ok (.if_icmp .ge 19, 3) := by decide +kernel
theorem dX8_ticks_22 : decode cX8_ticks 22 = .ok (.aload_n 0, 1) := by decide +kernel
theorem dX8_ticks_23 : decode cX8_ticks 23 = .ok (.iload_n 1, 1) := by decide +kernel
theorem dX8_ticks_24 : decode cX8_ticks 24 = .ok (.iconst 2, 1) := by decide +kernel
theorem dX8_ticks_25 : decode cX8_ticks 25 = .ok (.irem, 1) := by decide +kernel
theorem dX8_ticks_26 : decode cX8_ticks 26 = .ok (.iload_n 1, 1) := by decide +kernel
theorem dX8_ticks_27 : decode cX8_ticks 27 = .ok (.iconst 2, 1) := by decide +kernel
theorem dX8_ticks_28 : decode cX8_ticks 28 = .ok (.idiv, 1) := by decide +kernel
theorem dX8_ticks_29 : decode cX8_ticks 29 = .ok (.invokevirtual 144, 3) := by decide +kernel
theorem dX8_ticks_32 : decode cX8_ticks 32 = .ok (.iinc 1 1, 3) := by decide +kernel
theorem dX8_ticks_35 : decode cX8_ticks 35 = .ok (.goto (-23), 3) := by decide +kernel
theorem dX8_ticks_38 : decode cX8_ticks 38 = .ok (.aload_n 0, 1) := by decide +kernel
theorem dX8_ticks_39 : decode cX8_ticks 39 = .ok (.iconst 0, 1) := by decide +kernel
theorem dX8_ticks_40 : decode cX8_ticks 40 = .ok (.invokevirtual 148, 3) := by decide +kernel
theorem dX8_ticks_43 : decode cX8_ticks 43 = .ok (.aload_n 0, 1) := by decide +kernel
theorem dX8_ticks_44 : decode cX8_ticks 44 = .ok (.iconst 1, 1) := by decide +kernel
theorem dX8_ticks_45 : decode cX8_ticks 45 = .ok (.invokevirtual 148, 3) := by decide +kernel
theorem dX8_ticks_48 : decode cX8_ticks 48 = .ok (.iconst 0, 1) := by decide +kernel
theorem dX8_ticks_49 : decode cX8_ticks 49 = .ok (.istore_n 1, 1) := by decide +kernel
theorem dX8_ticks_50 : decode cX8_ticks 50 = .ok (.iload_n 1, 1) := by decide +kernel
theorem dX8_ticks_51 : decode cX8_ticks 51 = .ok (.iconst 2, 1) := by decide +kernel
theorem dX8_ticks_52 : decode cX8_ticks 52 = .ok (.aload_n 0, 1) := by decide +kernel
theorem dX8_ticks_53 : decode cX8_ticks 53 = .ok (.getfield 83, 3) := by decide +kernel
theorem dX8_ticks_56 : decode cX8_ticks 56 = .ok (.imul, 1) := by decide +kernel
theorem dX8_ticks_57 : decode cX8_ticks 57 = .ok (.if_icmp .ge 19, 3) := by decide +kernel
theorem dX8_ticks_60 : decode cX8_ticks 60 = .ok (.aload_n 0, 1) := by decide +kernel
theorem dX8_ticks_61 : decode cX8_ticks 61 = .ok (.iload_n 1, 1) := by decide +kernel
theorem dX8_ticks_62 : decode cX8_ticks 62 = .ok (.iconst 2, 1) := by decide +kernel
theorem dX8_ticks_63 : decode cX8_ticks 63 = .ok (.irem, 1) := by decide +kernel
theorem dX8_ticks_64 : decode cX8_ticks 64 = .ok (.iload_n 1, 1) := by decide +kernel
theorem dX8_ticks_65 : decode cX8_ticks 65 = .ok (.iconst 2, 1) := by decide +kernel
theorem dX8_ticks_66 : decode cX8_ticks 66 = .ok (.idiv, 1) := by decide +kernel
theorem dX8_ticks_67 : decode cX8_ticks 67 = .ok (.invokevirtual 151, 3) := by decide +kernel
theorem dX8_ticks_70 : decode cX8_ticks 70 = .ok (.iinc 1 1, 3) := by decide +kernel
theorem dX8_ticks_73 : decode cX8_ticks 73 = .ok (.goto (-23), 3) := by decide +kernel
theorem dX8_ticks_76 : decode cX8_ticks 76 = .ok (.iconst 0, 1) := by decide +kernel
theorem dX8_ticks_77 : decode cX8_ticks 77 = .ok (.istore_n 1, 1) := by decide +kernel
theorem dX8_ticks_78 : decode cX8_ticks 78 = .ok (.iload_n 1, 1) := by decide +kernel
theorem dX8_ticks_79 : decode cX8_ticks 79 = .ok (.bipush 16, 2) := by decide +kernel
theorem dX8_ticks_81 : decode cX8_ticks 81 = .ok (.if_icmp .ge 21, 3) := by decide +kernel
theorem dX8_ticks_84 : decode cX8_ticks 84 = .ok (.aload_n 0, 1) := by decide +kernel
theorem dX8_ticks_85 : decode cX8_ticks 85 = .ok (.iload_n 1, 1) := by decide +kernel
theorem dX8_ticks_86 : decode cX8_ticks 86 = .ok (.bipush 8, 2) := by decide +kernel
theorem dX8_ticks_88 : decode cX8_ticks 88 = .ok (.idiv, 1) := by decide +kernel
theorem dX8_ticks_89 : decode cX8_ticks 89 = .ok (.iload_n 1, 1) := by decide +kernel
theorem dX8_ticks_90 : decode cX8_ticks 90 = .ok (.bipush 8, 2) := by decide +kernel
theorem dX8_ticks_92 : decode cX8_ticks 92 = .ok (.irem, 1) := by decide +kernel
theorem dX8_ticks_93 : decode cX8_ticks 93 = .ok (.invokevirtual 154, 3) := by decide +kernel
theorem dX8_ticks_96 : decode cX8_ticks 96 = .ok (.iinc 1 1, 3) := by decide +kernel
theorem dX8_ticks_99 : decode cX8_ticks 99 = .ok (.goto (-21), 3) := by decide +kernel
theorem dX8_ticks_102 : decode cX8_ticks 102 = .ok (.return_, 1) := by decide +kernel
set_option maxRecDepth 20000 in
theorem ggX8_sendingSet_X8_isSending : GoodIn wsX8_sendingSet wsX8_isSending := goodIn_r _ [6, 7, 8, 9, 5, 10, 11, 12, 13, 14, 15, 16, 17, 18, 19, 20, 21, 22, 23, 24, 25, 26, 27, 28] (by decide +kernel) (by decide +kernel)
set_option maxRecDepth 20000 in
theorem gX8_sendingSet_X8_isSending : GoodIn wsX8_sendingSet (wsV RX8 138 RX8 yX8_isSending wsX8_isSending) := goodIn_app (goodIn_of _ (by decide +kernel)) ggX8_sendingSet_X8_isSending
theorem dX8_sendingSet_0 : decode cX8_sendingSet 0 = .ok (.iconst 0, 1) := by decide +kernel
theorem dX8_sendingSet_1 : decode cX8_sendingSet 1 = .ok (.istore_n 2, 1) := by decide +kernel
theorem dX8_sendingSet_2 : decode cX8_sendingSet 2 = .ok (.iconst 0, 1) := by decide +kernel
theorem dX8_sendingSet_3 : decode cX8_sendingSet 3 = .ok (.istore_n 3, 1) := by decide +kernel
theorem dX8_sendingSet_4 : decode cX8_sendingSet 4 = .ok (.iload_n 3, 1) := by decide +kernel
theorem dX8_sendingSet_5 : decode cX8_sendingSet 5 = .ok (.aload_n 0, 1) := by decide +kernel
theorem dX8_sendingSet_6 : decode cX8_sendingSet 6 = .ok (.getfield 83, 3) := by decide +kernel
theorem dX8_sendingSet_9 : decode cX8_sendingSet 9 = .ok (.if_icmp .ge 28, 3) := by decide +kernel
theorem dX8_sendingSet_12 : decode cX8_sendingSet 12 = .ok (.iload_n 2, 1) := by decide +kernel
theorem dX8_sendingSet_13 : decode cX8_sendingSet 13 = .ok (.aload_n 0, 1) := by decide +kernel
theorem dX8_sendingSet_14 : decode cX8_sendingSet 14 = .ok (.iload_n 1, 1) := by decide +kernel
theorem dX8_sendingSet_15 : decode cX8_sendingSet 15 = .ok (.iload_n 3, 1) := by decide +kernel
theorem dX8_sendingSet_16 : decode cX8_sendingSet 16 = .ok (.invokevirtual 138, 3) := by decide +kernel
theorem dX8_sendingSet_19 : decode cX8_sendingSet 19 = .ok (.ifCond .eq 9, 3) := by decide +kernel
theorem dX8_sendingSet_22 : decode cX8_sendingSet 22 = .ok (.iconst 1, 1) := by decide +kernel
theorem dX8_sendingSet_23 : decode cX8_sendingSet 23 = .ok (.iload_n 3, 1) := by decide +kernel
theorem dX8_sendingSet_24 : decode cX8_sendingSet 24 = .ok (.ishl, 1) := by decide +kernel
theorem dX8_sendingSet_25 : decode cX8_sendingSet 25 = .ok (.goto 4, 3) := by decide +kernel
theorem dX8_sendingSet_28 : decode cX8_sendingSet 28 = .ok (.iconst 0, 1) := by decide +kernel
theorem dX8_sendingSet_29 : decode cX8_sendingSet 29 = .ok (.ior, 1) := by decide +kernel
theorem dX8_sendingSet_30 : decode cX8_sendingSet 30 = .ok (.istore_n 2, 1) := by decide +kernel
theorem dX8_sendingSet_31 : decode cX8_sendingSet 31 = .ok (.iinc 3 1, 3) := by decide +kernel
theorem dX8_sendingSet_34 : decode cX8_sendingSet 34 = .ok (.goto (-30), 3) := by decide +kernel
theorem dX8_sendingSet_37 : decode cX8_sendingSet 37 = .ok (.iload_n 2, 1) := by decide +kernel
theorem dX8_sendingSet_38 : decode cX8_sendingSet 38 = .ok (.ireturn, 1) := by decide +kernel
set_option maxRecDepth 20000 in
theorem ggX8_agreed_X8_sendingSet : GoodIn wsX8_agreed wsX8_sendingSet := goodIn_r _ [5, 6, 7, 8, 9, 4, 10, 11, 12, 13, 14, 15, 16, 17, 18, 19, 20, 21, 22, 23, 24, 25, 26, 27, 28, 29, 30, 31, 32] (by decide +kernel) (by decide +kernel)
set_option maxRecDepth 20000 in
theorem gX8_agreed_X8_sendingSet : GoodIn wsX8_agreed (wsV RX8 157 RX8 yX8_sendingSet wsX8_sendingSet) := goodIn_app (goodIn_of _ (by decide +kernel)) ggX8_agreed_X8_sendingSet
theorem dX8_agreed_0 : decode cX8_agreed 0 = .ok (.aload_n 0, 1) := by decide +kernel
theorem dX8_agreed_1 : decode cX8_agreed 1 = .ok (.iconst 0, 1) := by decide +kernel
theorem dX8_agreed_2 : decode cX8_agreed 2 = .ok (.invokevirtual 157, 3) := by decide +kernel
theorem dX8_agreed_5 : decode cX8_agreed 5 = .ok (.istore_n 1, 1) := by decide +kernel
theorem dX8_agreed_6 : decode cX8_agreed 6 = .ok (.iload_n 1, 1) := by decide +kernel
theorem dX8_agreed_7 : decode cX8_agreed 7 = .ok (.ifCond .le 16, 3) := by decide +kernel
theorem dX8_agreed_10 : decode cX8_agreed 10 = .ok (.iload_n 1, 1) := by decide +kernel
theorem dX8_agreed_11 : decode cX8_agreed 11 = .ok (.aload_n 0, 1) := by decide +kernel
theorem dX8_agreed_12 : decode cX8_agreed 12 = .ok (.iconst 1, 1) := by decide +kernel
theorem dX8_agreed_13 : decode cX8_agreed 13 = .ok (.invokevirtual 157, 3) := by decide +kernel
theorem dX8_agreed_16 : decode cX8_agreed 16 = .ok (.if_icmp .ne 7, 3) := by decide +kernel
theorem dX8_agreed_19 : decode cX8_agreed 19 = .ok (.iconst 1, 1) := by decide +kernel
theorem dX8_agreed_20 : decode cX8_agreed 20 = .ok (.goto 4, 3) := by decide +kernel
theorem dX8_agreed_23 : decode cX8_agreed 23 = .ok (.iconst 0, 1) := by decide +kernel
theorem dX8_agreed_24 : decode cX8_agreed 24 = .ok (.ireturn, 1) := by decide +kernel
set_option maxRecDepth 20000 in
theorem ggX8_tick_X8_within : GoodIn wsX8_tick wsX8_within := goodIn_r _ [5] (by decide +kernel) (by decide +kernel)
set_option maxRecDepth 20000 in
theorem gX8_tick_X8_within : GoodIn wsX8_tick (va_wsS RX8 68 yX8_within wsX8_within) := goodIn_app (goodIn_of _ (by decide +kernel)) ggX8_tick_X8_within
set_option maxRecDepth 20000 in
theorem ggX8_tick_X8_keeps : GoodIn wsX8_tick wsX8_keeps := goodIn_r _ [9, 10, 11, 1, 83, 84, 85, 86, 87, 88, 89, 90, 91, 92, 93, 94, 95, 96, 97, 98, 99, 100] (by decide +kernel) (by decide +kernel)
set_option maxRecDepth 20000 in
theorem gX8_tick_X8_keeps : GoodIn wsX8_tick (wsV RX8 102 RX8 yX8_keeps wsX8_keeps) := goodIn_app (goodIn_of _ (by decide +kernel)) ggX8_tick_X8_keeps
set_option maxRecDepth 20000 in
theorem ggX8_tick_X8_ticks : GoodIn wsX8_tick wsX8_ticks := goodIn_r _ [15, 1, 16, 17, 18, 19, 4, 20, 21, 22, 23, 24, 25, 26, 27, 28, 29, 30, 31, 32, 33, 34, 35, 36, 37, 38, 39, 40, 41, 42, 43, 44, 45, 46, 47, 48, 49, 50, 51, 52, 53, 54, 55, 56, 57, 58, 59, 60, 61, 62, 63, 64, 65, 66, 67, 68, 69, 70, 71, 72, 73, 74, 83, 84, 85, 86, 87, 88, 89, 90, 91, 92, 93, 94, 95, 96, 97, 98, 99, 100] (by decide +kernel) (by decide +kernel)
set_option maxRecDepth 20000 in
theorem gX8_tick_X8_ticks : GoodIn wsX8_tick (wsV RX8 161 RX8 yX8_ticks wsX8_ticks) := goodIn_app (goodIn_of _ (by decide +kernel)) ggX8_tick_X8_ticks
set_option maxRecDepth 20000 in
theorem ggX8_tick_X8_agreed : GoodIn wsX8_tick wsX8_agreed := goodIn_r _ [78, 79, 80, 81, 4, 82, 16, 71, 72, 73, 74, 1, 21, 22, 23, 83, 84, 85, 86, 87, 88, 89, 90, 91, 92, 93, 94, 95, 96, 97, 98, 99, 100] (by decide +kernel) (by decide +kernel)
set_option maxRecDepth 20000 in
theorem gX8_tick_X8_agreed : GoodIn wsX8_tick (wsV RX8 164 RX8 yX8_agreed wsX8_agreed) := goodIn_app (goodIn_of _ (by decide +kernel)) ggX8_tick_X8_agreed
theorem dX8_tick_0 : decode cX8_tick 0 = .ok (.iload_n 1, 1) := by decide +kernel
theorem dX8_tick_1 : decode cX8_tick 1 = .ok (.iconst 1, 1) := by decide +kernel
theorem dX8_tick_2 : decode cX8_tick 2 = .ok (.bipush 40, 2) := by decide +kernel
theorem dX8_tick_4 : decode cX8_tick 4 = .ok (.invokestatic 68, 3) := by decide +kernel
theorem dX8_tick_7 : decode cX8_tick 7 = .ok (.ifCond .ne 5, 3) := by decide +kernel
theorem dX8_tick_10 : decode cX8_tick 10 = .ok (.iconst (-1), 1) := by decide +kernel
theorem dX8_tick_11 : decode cX8_tick 11 = .ok (.ireturn, 1) := by decide +kernel
theorem dX8_tick_12 : decode cX8_tick 12 = .ok (.aload_n 0, 1) := by decide +kernel
theorem dX8_tick_13 : decode cX8_tick 13 = .ok (.getfield 7, 3) := by decide +kernel
theorem dX8_tick_16 : decode cX8_tick 16 = .ok (.iconst 3, 1) := by decide +kernel
theorem dX8_tick_17 : decode cX8_tick 17 = .ok (.iaload, 1) := by decide +kernel
theorem dX8_tick_18 : decode cX8_tick 18 = .ok (.iload_n 1, 1) := by decide +kernel
theorem dX8_tick_19 : decode cX8_tick 19 = .ok (.iadd, 1) := by decide +kernel
theorem dX8_tick_20 : decode cX8_tick 20 = .ok (.sipush 9999, 3) := by decide +kernel
theorem dX8_tick_23 : decode cX8_tick 23 = .ok (.if_icmp .le 6, 3) := by decide +kernel
theorem dX8_tick_26 : decode cX8_tick 26 = .ok (.bipush (-2), 2) := by decide +kernel
theorem dX8_tick_28 : decode cX8_tick 28 = .ok (.ireturn, 1) := by decide +kernel
theorem dX8_tick_29 : decode cX8_tick 29 = .ok (.aload_n 0, 1) := by decide +kernel
theorem dX8_tick_30 : decode cX8_tick 30 = .ok (.invokevirtual 102, 3) := by decide +kernel
theorem dX8_tick_33 : decode cX8_tick 33 = .ok (.iconst 0, 1) := by decide +kernel
theorem dX8_tick_34 : decode cX8_tick 34 = .ok (.istore_n 2, 1) := by decide +kernel
theorem dX8_tick_35 : decode cX8_tick 35 = .ok (.iload_n 2, 1) := by decide +kernel
theorem dX8_tick_36 : decode cX8_tick 36 = .ok (.iload_n 1, 1) := by decide +kernel
theorem dX8_tick_37 : decode cX8_tick 37 = .ok (.if_icmp .ge 13, 3) := by decide +kernel
theorem dX8_tick_40 : decode cX8_tick 40 = .ok (.aload_n 0, 1) := by decide +kernel
theorem dX8_tick_41 : decode cX8_tick 41 = .ok (.invokevirtual 161, 3) := by decide +kernel
theorem dX8_tick_44 : decode cX8_tick 44 = .ok (.iinc 2 1, 3) := by decide +kernel
theorem dX8_tick_47 : decode cX8_tick 47 = .ok (.goto (-12), 3) := by decide +kernel
theorem dX8_tick_50 : decode cX8_tick 50 = .ok (.aload_n 0, 1) := by decide +kernel
theorem dX8_tick_51 : decode cX8_tick 51 = .ok (.invokevirtual 164, 3) := by decide +kernel
theorem dX8_tick_54 : decode cX8_tick 54 = .ok (.ireturn, 1) := by decide +kernel
theorem dX8_tellLink_0 : decode cX8_tellLink 0 = .ok (.iload_n 2, 1) := by decide +kernel
theorem dX8_tellLink_1 : decode cX8_tellLink 1 = .ok (.tableswitch 133 2 10 #[51, 61, 71, 71, 71, 71, 104, 114, 124], 51) := by decide +kernel
theorem dX8_tellLink_52 : decode cX8_tellLink 52 = .ok (.aload_n 0, 1) := by decide +kernel
theorem dX8_tellLink_53 : decode cX8_tellLink 53 = .ok (.getfield 7, 3) := by decide +kernel
theorem dX8_tellLink_56 : decode cX8_tellLink 56 = .ok (.iload_n 1, 1) := by decide +kernel
theorem dX8_tellLink_57 : decode cX8_tellLink 57 = .ok (.bipush 14, 2) := by decide +kernel
theorem dX8_tellLink_59 : decode cX8_tellLink 59 = .ok (.iadd, 1) := by decide +kernel
theorem dX8_tellLink_60 : decode cX8_tellLink 60 = .ok (.iaload, 1) := by decide +kernel
theorem dX8_tellLink_61 : decode cX8_tellLink 61 = .ok (.ireturn, 1) := by decide +kernel
theorem dX8_tellLink_62 : decode cX8_tellLink 62 = .ok (.aload_n 0, 1) := by decide +kernel
theorem dX8_tellLink_63 : decode cX8_tellLink 63 = .ok (.getfield 7, 3) := by decide +kernel
theorem dX8_tellLink_66 : decode cX8_tellLink 66 = .ok (.iload_n 1, 1) := by decide +kernel
theorem dX8_tellLink_67 : decode cX8_tellLink 67 = .ok (.bipush 8, 2) := by decide +kernel
theorem dX8_tellLink_69 : decode cX8_tellLink 69 = .ok (.iadd, 1) := by decide +kernel
theorem dX8_tellLink_70 : decode cX8_tellLink 70 = .ok (.iaload, 1) := by decide +kernel
theorem dX8_tellLink_71 : decode cX8_tellLink 71 = .ok (.ireturn, 1) := by decide +kernel
theorem dX8_tellLink_72 : decode cX8_tellLink 72 = .ok (.aload_n 0, 1) := by decide +kernel
theorem dX8_tellLink_73 : decode cX8_tellLink 73 = .ok (.getfield 7, 3) := by decide +kernel
theorem dX8_tellLink_76 : decode cX8_tellLink 76 = .ok (.iload_n 1, 1) := by decide +kernel
theorem dX8_tellLink_77 : decode cX8_tellLink 77 = .ok (.bipush 8, 2) := by decide +kernel
theorem dX8_tellLink_79 : decode cX8_tellLink 79 = .ok (.iadd, 1) := by decide +kernel
theorem dX8_tellLink_80 : decode cX8_tellLink 80 = .ok (.iaload, 1) := by decide +kernel
theorem dX8_tellLink_81 : decode cX8_tellLink 81 = .ok (.bipush (-4), 2) := by decide +kernel
theorem dX8_tellLink_83 : decode cX8_tellLink 83 = .ok (.if_icmp .ne 8, 3) := by decide +kernel
theorem dX8_tellLink_86 : decode cX8_tellLink 86 = .ok (.bipush (-4), 2) := by decide +kernel
theorem dX8_tellLink_88 : decode cX8_tellLink 88 = .ok (.goto 16, 3) := by decide +kernel
theorem dX8_tellLink_91 : decode cX8_tellLink 91 = .ok (.aload_n 0, 1) := by decide +kernel
theorem dX8_tellLink_92 : decode cX8_tellLink 92 = .ok (.getfield 7, 3) := by decide +kernel
theorem dX8_tellLink_95 : decode cX8_tellLink 95 = .ok (.iload_n 1, 1) := by decide +kernel
theorem dX8_tellLink_96 : decode cX8_tellLink 96 = .ok (.bipush 9, 2) := by decide +kernel
theorem dX8_tellLink_98 : decode cX8_tellLink 98 = .ok (.iadd, 1) := by decide +kernel
theorem dX8_tellLink_99 : decode cX8_tellLink 99 = .ok (.iload_n 2, 1) := by decide +kernel
theorem dX8_tellLink_100 : decode cX8_tellLink 100 = .ok (.iadd, 1) := by decide +kernel
theorem dX8_tellLink_101 : decode cX8_tellLink 101 = .ok (.iconst 4, 1) := by decide +kernel
theorem dX8_tellLink_102 : decode cX8_tellLink 102 = .ok (.isub, 1) := by decide +kernel
theorem dX8_tellLink_103 : decode cX8_tellLink 103 = .ok (.iaload, 1) := by decide +kernel
theorem dX8_tellLink_104 : decode cX8_tellLink 104 = .ok (.ireturn, 1) := by decide +kernel
theorem dX8_tellLink_105 : decode cX8_tellLink 105 = .ok (.aload_n 0, 1) := by decide +kernel
theorem dX8_tellLink_106 : decode cX8_tellLink 106 = .ok (.getfield 7, 3) := by decide +kernel
theorem dX8_tellLink_109 : decode cX8_tellLink 109 = .ok (.iload_n 1, 1) := by decide +kernel
theorem dX8_tellLink_110 : decode cX8_tellLink 110 = .ok (.bipush 13, 2) := by decide +kernel
theorem dX8_tellLink_112 : decode cX8_tellLink 112 = .ok (.iadd, 1) := by decide +kernel
theorem dX8_tellLink_113 : decode cX8_tellLink 113 = .ok (.iaload, 1) := by decide +kernel
theorem dX8_tellLink_114 : decode cX8_tellLink 114 = .ok (.ireturn, 1) := by decide +kernel
theorem dX8_tellLink_115 : decode cX8_tellLink 115 = .ok (.aload_n 0, 1) := by decide +kernel
theorem dX8_tellLink_116 : decode cX8_tellLink 116 = .ok (.getfield 7, 3) := by decide +kernel
theorem dX8_tellLink_119 : decode cX8_tellLink 119 = .ok (.iload_n 1, 1) := by decide +kernel
theorem dX8_tellLink_120 : decode cX8_tellLink 120 = .ok (.bipush 15, 2) := by decide +kernel
theorem dX8_tellLink_122 : decode cX8_tellLink 122 = .ok (.iadd, 1) := by decide +kernel
theorem dX8_tellLink_123 : decode cX8_tellLink 123 = .ok (.iaload, 1) := by decide +kernel
theorem dX8_tellLink_124 : decode cX8_tellLink 124 = .ok (.ireturn, 1) := by decide +kernel
theorem dX8_tellLink_125 : decode cX8_tellLink 125 = .ok (.aload_n 0, 1) := by decide +kernel
theorem dX8_tellLink_126 : decode cX8_tellLink 126 = .ok (.getfield 7, 3) := by decide +kernel
theorem dX8_tellLink_129 : decode cX8_tellLink 129 = .ok (.iload_n 1, 1) := by decide +kernel
theorem dX8_tellLink_130 : decode cX8_tellLink 130 = .ok (.iconst 2, 1) := by decide +kernel
theorem dX8_tellLink_131 : decode cX8_tellLink 131 = .ok (.iadd, 1) := by decide +kernel
theorem dX8_tellLink_132 : decode cX8_tellLink 132 = .ok (.iaload, 1) := by decide +kernel
theorem dX8_tellLink_133 : decode cX8_tellLink 133 = .ok (.ireturn, 1) := by decide +kernel
theorem dX8_tellLink_134 : decode cX8_tellLink 134 = .ok (.aload_n 0, 1) := by decide +kernel
theorem dX8_tellLink_135 : decode cX8_tellLink 135 = .ok (.getfield 7, 3) := by decide +kernel
theorem dX8_tellLink_138 : decode cX8_tellLink 138 = .ok (.iload_n 1, 1) := by decide +kernel
theorem dX8_tellLink_139 : decode cX8_tellLink 139 = .ok (.iload_n 2, 1) := by decide +kernel
theorem dX8_tellLink_140 : decode cX8_tellLink 140 = .ok (.iadd, 1) := by decide +kernel
theorem dX8_tellLink_141 : decode cX8_tellLink 141 = .ok (.iaload, 1) := by decide +kernel
theorem dX8_tellLink_142 : decode cX8_tellLink 142 = .ok (.ireturn, 1) := by decide +kernel
set_option maxRecDepth 20000 in
theorem ggX8_link_X8_isEnd : GoodIn wsX8_link wsX8_isEnd := goodIn_r _ [4] (by decide +kernel) (by decide +kernel)
set_option maxRecDepth 20000 in
theorem gX8_link_X8_isEnd : GoodIn wsX8_link (va_wsS RX8 108 yX8_isEnd wsX8_isEnd) := goodIn_app (goodIn_of _ (by decide +kernel)) ggX8_link_X8_isEnd
set_option maxRecDepth 20000 in
theorem ggX8_link_X8_isLink : GoodIn wsX8_link wsX8_isLink := goodIn_r _ [8, 9, 10, 11, 3, 12, 21, 22, 23, 24, 25, 26, 27, 28, 29, 30, 31, 32, 33, 34, 35, 36, 37, 38] (by decide +kernel) (by decide +kernel)
set_option maxRecDepth 20000 in
theorem gX8_link_X8_isLink : GoodIn wsX8_link (wsV RX8 99 RX8 yX8_isLink wsX8_isLink) := goodIn_app (goodIn_of _ (by decide +kernel)) ggX8_link_X8_isLink
set_option maxRecDepth 20000 in
theorem ggX8_link_X8_within : GoodIn wsX8_link wsX8_within := goodIn_r _ [12] (by decide +kernel) (by decide +kernel)
set_option maxRecDepth 20000 in
theorem gX8_link_X8_within : GoodIn wsX8_link (va_wsS RX8 68 yX8_within wsX8_within) := goodIn_app (goodIn_of _ (by decide +kernel)) ggX8_link_X8_within
set_option maxRecDepth 20000 in
theorem ggX8_link_X8_place : GoodIn wsX8_link wsX8_place := goodIn_r _ [15] (by decide +kernel) (by decide +kernel)
set_option maxRecDepth 20000 in
theorem gX8_link_X8_place : GoodIn wsX8_link (va_wsS RX8 92 yX8_place wsX8_place) := goodIn_app (goodIn_of _ (by decide +kernel)) ggX8_link_X8_place
set_option maxRecDepth 20000 in
theorem ggX8_link_X8_tellLink : GoodIn wsX8_link wsX8_tellLink := goodIn_r _ [19, 20, 21, 22, 23, 24, 25, 26, 27, 28, 29, 30, 31, 32, 33, 34, 35, 36, 37, 38] (by decide +kernel) (by decide +kernel)
set_option maxRecDepth 20000 in
theorem gX8_link_X8_tellLink : GoodIn wsX8_link (wsV RX8 167 RX8 yX8_tellLink wsX8_tellLink) := goodIn_app (goodIn_of _ (by decide +kernel)) ggX8_link_X8_tellLink
theorem dX8_link_0 : decode cX8_link 0 = .ok (.iload_n 1, 1) := by decide +kernel
theorem dX8_link_1 : decode cX8_link 1 = .ok (.invokestatic 108, 3) := by decide +kernel
theorem dX8_link_4 : decode cX8_link 4 = .ok (.ifCond .eq 34, 3) := by decide +kernel
theorem dX8_link_7 : decode cX8_link 7 = .ok (.aload_n 0, 1) := by decide +kernel
theorem dX8_link_8 : decode cX8_link 8 = .ok (.iload_n 2, 1) := by decide +kernel
theorem dX8_link_9 : decode cX8_link 9 = .ok (.invokevirtual 99, 3) := by decide +kernel
theorem dX8_link_12 : decode cX8_link 12 = .ok (.ifCond .eq 26, 3) := by decide +kernel
theorem dX8_link_15 : decode cX8_link 15 = .ok (.iload_n 3, 1) := by decide +kernel
theorem dX8_link_16 : decode cX8_link 16 = .ok (.iconst 0, 1) := by decide +kernel
theorem dX8_link_17 : decode cX8_link 17 = .ok (.bipush 10, 2) := by decide +kernel
theorem dX8_link_19 : decode cX8_link 19 = .ok (.invokestatic 68, 3) := by decide +kernel
theorem dX8_link_22 : decode cX8_link 22 = .ok (.ifCond .eq 16, 3) := by decide +kernel
theorem dX8_link_25 : decode cX8_link 25 = .ok (.aload_n 0, 1) := by decide +kernel
theorem dX8_link_26 : decode cX8_link 26 = .ok (.iload_n 1, 1) := by decide +kernel
theorem dX8_link_27 : decode cX8_link 27 = .ok (.iload_n 2, 1) := by decide +kernel
theorem dX8_link_28 : decode cX8_link 28 = .ok (.invokestatic 92, 3) := by decide +kernel
theorem dX8_link_31 : decode cX8_link 31 = .ok (.iload_n 3, 1) := by decide +kernel
theorem dX8_link_32 : decode cX8_link 32 = .ok (.invokevirtual 167, 3) := by decide +kernel
theorem dX8_link_35 : decode cX8_link 35 = .ok (.goto 4, 3) := by decide +kernel
theorem dX8_link_38 : decode cX8_link 38 = .ok (.iconst (-1), 1) := by decide +kernel
theorem dX8_link_39 : decode cX8_link 39 = .ok (.ireturn, 1) := by decide +kernel
set_option maxRecDepth 20000 in
theorem ggX8_bundle_X8_isEnd : GoodIn wsX8_bundle wsX8_isEnd := goodIn_r _ [6] (by decide +kernel) (by decide +kernel)
set_option maxRecDepth 20000 in
theorem gX8_bundle_X8_isEnd : GoodIn wsX8_bundle (va_wsS RX8 108 yX8_isEnd wsX8_isEnd) := goodIn_app (goodIn_of _ (by decide +kernel)) ggX8_bundle_X8_isEnd
set_option maxRecDepth 20000 in
theorem ggX8_bundle_X8_within : GoodIn wsX8_bundle wsX8_within := goodIn_r _ [9] (by decide +kernel) (by decide +kernel)
set_option maxRecDepth 20000 in
theorem gX8_bundle_X8_within : GoodIn wsX8_bundle (va_wsS RX8 68 yX8_within wsX8_within) := goodIn_app (goodIn_of _ (by decide +kernel)) ggX8_bundle_X8_within
set_option maxRecDepth 20000 in
theorem ggX8_bundle_X8_place : GoodIn wsX8_bundle wsX8_place := goodIn_r _ [12] (by decide +kernel) (by decide +kernel)
set_option maxRecDepth 20000 in
theorem gX8_bundle_X8_place : GoodIn wsX8_bundle (va_wsS RX8 92 yX8_place wsX8_place) := goodIn_app (goodIn_of _ (by decide +kernel)) ggX8_bundle_X8_place
set_option maxRecDepth 20000 in
theorem ggX8_bundle_X8_isSending : GoodIn wsX8_bundle wsX8_isSending := goodIn_r _ [16, 2, 10, 11, 5, 12, 17, 18, 19, 20, 21, 22, 23, 24, 25, 26, 27, 28, 29, 30, 31, 32, 33, 34] (by decide +kernel) (by decide +kernel)
set_option maxRecDepth 20000 in
theorem gX8_bundle_X8_isSending : GoodIn wsX8_bundle (wsV RX8 138 RX8 yX8_isSending wsX8_isSending) := goodIn_app (goodIn_of _ (by decide +kernel)) ggX8_bundle_X8_isSending
theorem dX8_bundle_0 : decode cX8_bundle 0 = .ok (.iload_n 1, 1) := by decide +kernel
theorem dX8_bundle_1 : decode cX8_bundle 1 = .ok (.invokestatic 108, 3) := by decide +kernel
theorem dX8_bundle_4 : decode cX8_bundle 4 = .ok (.ifCond .eq 12, 3) := by decide +kernel
theorem dX8_bundle_7 : decode cX8_bundle 7 = .ok (.iload_n 2, 1) := by decide +kernel
theorem dX8_bundle_8 : decode cX8_bundle 8 = .ok (.iconst 0, 1) := by decide +kernel
theorem dX8_bundle_9 : decode cX8_bundle 9 = .ok (.iconst 2, 1) := by decide +kernel
theorem dX8_bundle_10 : decode cX8_bundle 10 = .ok (.invokestatic 68, 3) := by decide +kernel
theorem dX8_bundle_13 : decode cX8_bundle 13 = .ok (.ifCond .ne 5, 3) := by decide +kernel
theorem dX8_bundle_16 : decode cX8_bundle 16 = .ok (.iconst (-1), 1) := by decide +kernel
theorem dX8_bundle_17 : decode cX8_bundle 17 = .ok (.ireturn, 1) := by decide +kernel
theorem dX8_bundle_18 : decode cX8_bundle 18 = .ok (.iconst 0, 1) := by decide +kernel
theorem dX8_bundle_19 : decode cX8_bundle 19 = .ok (.istore_n 3, 1) := by decide +kernel
theorem dX8_bundle_20 : decode cX8_bundle 20 = .ok (.iconst 0, 1) := by decide +kernel
theorem dX8_bundle_21 : decode cX8_bundle 21 = .ok (.istore 4, 2) := by decide +kernel
theorem dX8_bundle_23 : decode cX8_bundle 23 = .ok (.iload 4, 2) := by decide +kernel
theorem dX8_bundle_25 : decode cX8_bundle 25 = .ok (.aload_n 0, 1) := by decide +kernel
theorem dX8_bundle_26 : decode cX8_bundle 26 = .ok (.getfield 83, 3) := by decide +kernel
theorem dX8_bundle_29 : decode cX8_bundle 29 = .ok (.if_icmp .ge 97, 3) := by decide +kernel
theorem dX8_bundle_32 : decode cX8_bundle 32 = .ok (.iload_n 1, 1) := by decide +kernel
theorem dX8_bundle_33 : decode cX8_bundle 33 = .ok (.iload 4, 2) := by decide +kernel
theorem dX8_bundle_35 : decode cX8_bundle 35 = .ok (.invokestatic 92, 3) := by decide +kernel
theorem dX8_bundle_38 : decode cX8_bundle 38 = .ok (.istore 5, 2) := by decide +kernel
theorem dX8_bundle_40 : decode cX8_bundle 40 = .ok (.iload_n 2, 1) := by decide +kernel
theorem dX8_bundle_41 : decode cX8_bundle 41 = .ok (.ifCond .ne 26, 3) := by decide +kernel
theorem dX8_bundle_44 : decode cX8_bundle 44 = .ok (.aload_n 0, 1) := by decide +kernel
theorem dX8_bundle_45 : decode cX8_bundle 45 = .ok (.getfield 7, 3) := by decide +kernel
theorem dX8_bundle_48 : decode cX8_bundle 48 = .ok (.iload 5, 2) := by decide +kernel
theorem dX8_bundle_50 : decode cX8_bundle 50 = .ok (.bipush 8, 2) := by decide +kernel
theorem dX8_bundle_52 : decode cX8_bundle 52 = .ok (.iadd, 1) := by decide +kernel
theorem dX8_bundle_53 : decode cX8_bundle 53 = .ok (.iaload, 1) := by decide +kernel
theorem dX8_bundle_54 : decode cX8_bundle 54 = .ok (.bipush (-4), 2) := by decide +kernel
theorem dX8_bundle_56 : decode cX8_bundle 56 = .ok (.if_icmp .eq 7, 3) := by decide +kernel
theorem dX8_bundle_59 : decode cX8_bundle 59 = .ok (.iconst 1, 1) := by decide +kernel
theorem dX8_bundle_60 : decode cX8_bundle 60 = .ok (.goto 42, 3) := by decide +kernel
theorem dX8_bundle_63 : decode cX8_bundle 63 = .ok (.iconst 0, 1) := by decide +kernel
theorem dX8_bundle_64 : decode cX8_bundle 64 = .ok (.goto 38, 3) := by decide +kernel
theorem dX8_bundle_67 : decode cX8_bundle 67 = .ok (.iload_n 2, 1) := by decide +kernel
theorem dX8_bundle_68 : decode cX8_bundle 68 = .ok (.iconst 1, 1) := by decide +kernel
theorem dX8_bundle_69 : decode cX8_bundle 69 = .ok (.if_icmp .ne 26, 3) := by decide +kernel
theorem dX8_bundle_72 : decode cX8_bundle 72 = .ok (.aload_n 0, 1) := by decide +kernel
theorem dX8_bundle_73 : decode cX8_bundle 73 = .ok (.getfield 7, 3) := by decide +kernel
theorem dX8_bundle_76 : decode cX8_bundle 76 = .ok (.iload 5, 2) := by decide +kernel
theorem dX8_bundle_78 : decode cX8_bundle 78 = .ok (.bipush 13, 2) := by decide +kernel
theorem dX8_bundle_80 : decode cX8_bundle 80 = .ok (.iadd, 1) := by decide +kernel
theorem dX8_bundle_81 : decode cX8_bundle 81 = .ok (.iaload, 1) := by decide +kernel
theorem dX8_bundle_82 : decode cX8_bundle 82 = .ok (.bipush (-4), 2) := by decide +kernel
theorem dX8_bundle_84 : decode cX8_bundle 84 = .ok (.if_icmp .eq 7, 3) := by decide +kernel
theorem dX8_bundle_87 : decode cX8_bundle 87 = .ok (.iconst 1, 1) := by decide +kernel
theorem dX8_bundle_88 : decode cX8_bundle 88 = .ok (.goto 14, 3) := by decide +kernel
theorem dX8_bundle_91 : decode cX8_bundle 91 = .ok (.iconst 0, 1) := by decide +kernel
theorem dX8_bundle_92 : decode cX8_bundle 92 = .ok (.goto 10, 3) := by decide +kernel
theorem dX8_bundle_95 : decode cX8_bundle 95 = .ok (.aload_n 0, 1) := by decide +kernel
theorem dX8_bundle_96 : decode cX8_bundle 96 = .ok (.iload_n 1, 1) := by decide +kernel
theorem dX8_bundle_97 : decode cX8_bundle 97 = .ok (.iload 4, 2) := by decide +kernel
theorem dX8_bundle_99 : decode cX8_bundle 99 = .ok (.invokevirtual 138, 3) := by decide +kernel
theorem dX8_bundle_102 : decode cX8_bundle 102 = .ok (.istore 6, 2) := by decide +kernel
theorem dX8_bundle_104 : decode cX8_bundle 104 = .ok (.iload_n 3, 1) := by decide +kernel
theorem dX8_bundle_105 : decode cX8_bundle 105 = .ok (.iload 6, 2) := by decide +kernel
theorem dX8_bundle_107 : decode cX8_bundle 107 = .ok (.ifCond .eq 10, 3) := by decide +kernel
theorem dX8_bundle_110 : decode cX8_bundle 110 = .ok (.iconst 1, 1) := by decide +kernel
theorem dX8_bundle_111 : decode cX8_bundle 111 = .ok (.iload 4, 2) := by decide +kernel
theorem dX8_bundle_113 : decode cX8_bundle 113 = .ok (.ishl, 1) := by decide +kernel
theorem dX8_bundle_114 : decode cX8_bundle 114 = .ok (.goto 4, 3) := by decide +kernel
theorem dX8_bundle_117 : decode cX8_bundle 117 = .ok (.iconst 0, 1) := by decide +kernel
theorem dX8_bundle_118 : decode cX8_bundle 118 = .ok (.ior, 1) := by decide +kernel
theorem dX8_bundle_119 : decode cX8_bundle 119 = .ok (.istore_n 3, 1) := by decide +kernel
theorem dX8_bundle_120 : decode cX8_bundle 120 = .ok (.iinc 4 1, 3) := by decide +kernel
theorem dX8_bundle_123 : decode cX8_bundle 123 = .ok (.goto (-100), 3) := by decide +kernel
theorem dX8_bundle_126 : decode cX8_bundle 126 = .ok (.iload_n 3, 1) := by decide +kernel
theorem dX8_bundle_127 : decode cX8_bundle 127 = .ok (.ireturn, 1) := by decide +kernel
set_option maxRecDepth 20000 in
theorem ggX8_isFlow_X8_within : GoodIn wsX8_isFlow wsX8_within := goodIn_r _ [4] (by decide +kernel) (by decide +kernel)
set_option maxRecDepth 20000 in
theorem gX8_isFlow_X8_within : GoodIn wsX8_isFlow (va_wsS RX8 68 yX8_within wsX8_within) := goodIn_app (goodIn_of _ (by decide +kernel)) ggX8_isFlow_X8_within
theorem dX8_isFlow_0 : decode cX8_isFlow 0 = .ok (.iload_n 0, 1) := by decide +kernel
theorem dX8_isFlow_1 : decode cX8_isFlow 1 = .ok (.iconst 0, 1) := by decide +kernel
theorem dX8_isFlow_2 : decode cX8_isFlow 2 = .ok (.bipush 7, 2) := by decide +kernel
theorem dX8_isFlow_4 : decode cX8_isFlow 4 = .ok (.invokestatic 68, 3) := by decide +kernel
theorem dX8_isFlow_7 : decode cX8_isFlow 7 = .ok (.ireturn, 1) := by decide +kernel
set_option maxRecDepth 20000 in
theorem ggX8_flow_X8_isEnd : GoodIn wsX8_flow wsX8_isEnd := goodIn_r _ [5] (by decide +kernel) (by decide +kernel)
set_option maxRecDepth 20000 in
theorem gX8_flow_X8_isEnd : GoodIn wsX8_flow (va_wsS RX8 108 yX8_isEnd wsX8_isEnd) := goodIn_app (goodIn_of _ (by decide +kernel)) ggX8_flow_X8_isEnd
set_option maxRecDepth 20000 in
theorem ggX8_flow_X8_isFlow : GoodIn wsX8_flow wsX8_isFlow := goodIn_r _ [8, 9, 10, 4, 11] (by decide +kernel) (by decide +kernel)
set_option maxRecDepth 20000 in
theorem gX8_flow_X8_isFlow : GoodIn wsX8_flow (va_wsS RX8 170 yX8_isFlow wsX8_isFlow) := goodIn_app (goodIn_of _ (by decide +kernel)) ggX8_flow_X8_isFlow
set_option maxRecDepth 20000 in
theorem ggX8_flow_X8_within : GoodIn wsX8_flow wsX8_within := goodIn_r _ [11] (by decide +kernel) (by decide +kernel)
set_option maxRecDepth 20000 in
theorem gX8_flow_X8_within : GoodIn wsX8_flow (va_wsS RX8 68 yX8_within wsX8_within) := goodIn_app (goodIn_of _ (by decide +kernel)) ggX8_flow_X8_within
set_option maxRecDepth 20000 in
theorem ggX8_flow_X8_wants : GoodIn wsX8_flow wsX8_wants := goodIn_r _ [15, 16, 17, 18, 19, 4, 20, 1, 21, 22, 23, 24, 25, 26, 27, 28, 29, 30, 31, 32, 33, 34, 35, 36, 37, 38, 39, 40, 41] (by decide +kernel) (by decide +kernel)
set_option maxRecDepth 20000 in
theorem gX8_flow_X8_wants : GoodIn wsX8_flow (wsV RX8 141 RX8 yX8_wants wsX8_wants) := goodIn_app (goodIn_of _ (by decide +kernel)) ggX8_flow_X8_wants
theorem dX8_flow_0 : decode cX8_flow 0 = .ok (.iload_n 1, 1) := by decide +kernel
theorem dX8_flow_1 : decode cX8_flow 1 = .ok (.invokestatic 108, 3) := by decide +kernel
theorem dX8_flow_4 : decode cX8_flow 4 = .ok (.ifCond .eq 19, 3) := by decide +kernel
theorem dX8_flow_7 : decode cX8_flow 7 = .ok (.iload_n 2, 1) := by decide +kernel
theorem dX8_flow_8 : decode cX8_flow 8 = .ok (.invokestatic 170, 3) := by decide +kernel
theorem dX8_flow_11 : decode cX8_flow 11 = .ok (.ifCond .eq 12, 3) := by decide +kernel
theorem dX8_flow_14 : decode cX8_flow 14 = .ok (.iload_n 3, 1) := by decide +kernel
theorem dX8_flow_15 : decode cX8_flow 15 = .ok (.iconst 0, 1) := by decide +kernel
theorem dX8_flow_16 : decode cX8_flow 16 = .ok (.iconst 2, 1) := by decide +kernel
theorem dX8_flow_17 : decode cX8_flow 17 = .ok (.invokestatic 68, 3) := by decide +kernel
theorem dX8_flow_20 : decode cX8_flow 20 = .ok (.ifCond .ne 5, 3) := by decide +kernel
theorem dX8_flow_23 : decode cX8_flow 23 = .ok (.iconst (-1), 1) := by decide +kernel
theorem dX8_flow_24 : decode cX8_flow 24 = .ok (.ireturn, 1) := by decide +kernel
theorem dX8_flow_25 : decode cX8_flow 25 = .ok (.iload_n 3, 1) := by decide +kernel
theorem dX8_flow_26 : decode cX8_flow 26 = .ok (.iconst 2, 1) := by decide +kernel
theorem dX8_flow_27 : decode cX8_flow 27 = .ok (.if_icmp .ge 24, 3) := by decide +kernel
theorem dX8_flow_30 : decode cX8_flow 30 = .ok (.aload_n 0, 1) := by decide +kernel
theorem dX8_flow_31 : decode cX8_flow 31 = .ok (.getfield 7, 3) := by decide +kernel
theorem dX8_flow_34 : decode cX8_flow 34 = .ok (.bipush 10, 2) := by decide +kernel
theorem dX8_flow_36 : decode cX8_flow 36 = .ok (.iconst 2, 1) := by decide +kernel
theorem dX8_flow_37 : decode cX8_flow 37 = .ok (.bipush 8, 2) := by decide +kernel
theorem dX8_flow_39 : decode cX8_flow 39 = .ok (.iload_n 1, 1) := by decide +kernel
theorem dX8_flow_40 : decode cX8_flow 40 = .ok (.imul, 1) := by decide +kernel
theorem dX8_flow_41 : decode cX8_flow 41 = .ok (.iload_n 2, 1) := by decide +kernel
theorem dX8_flow_42 : decode cX8_flow 42 = .ok (.iadd, 1) := by decide +kernel
theorem dX8_flow_43 : decode cX8_flow 43 = .ok (.imul, 1) := by decide +kernel
theorem dX8_flow_44 : decode cX8_flow 44 = .ok (.iadd, 1) := by decide +kernel
theorem dX8_flow_45 : decode cX8_flow 45 = .ok (.iload_n 3, 1) := by decide +kernel
theorem dX8_flow_46 : decode cX8_flow 46 = .ok (.iadd, 1) := by decide +kernel
theorem dX8_flow_47 : decode cX8_flow 47 = .ok (.iaload, 1) := by decide +kernel
theorem dX8_flow_48 : decode cX8_flow 48 = .ok (.goto 9, 3) := by decide +kernel
theorem dX8_flow_51 : decode cX8_flow 51 = .ok (.aload_n 0, 1) := by decide +kernel
theorem dX8_flow_52 : decode cX8_flow 52 = .ok (.iload_n 1, 1) := by decide +kernel
theorem dX8_flow_53 : decode cX8_flow 53 = .ok (.iload_n 2, 1) := by decide +kernel
theorem dX8_flow_54 : decode cX8_flow 54 = .ok (.invokevirtual 141, 3) := by decide +kernel
theorem dX8_flow_57 : decode cX8_flow 57 = .ok (.ireturn, 1) := by decide +kernel
set_option maxRecDepth 20000 in
theorem ggX8_frame_X8_isEnd : GoodIn wsX8_frame wsX8_isEnd := goodIn_r _ [6] (by decide +kernel) (by decide +kernel)
set_option maxRecDepth 20000 in
theorem gX8_frame_X8_isEnd : GoodIn wsX8_frame (va_wsS RX8 108 yX8_isEnd wsX8_isEnd) := goodIn_app (goodIn_of _ (by decide +kernel)) ggX8_frame_X8_isEnd
set_option maxRecDepth 20000 in
theorem ggX8_frame_X8_isFlow : GoodIn wsX8_frame wsX8_isFlow := goodIn_r _ [9, 10, 11, 5, 12] (by decide +kernel) (by decide +kernel)
set_option maxRecDepth 20000 in
theorem gX8_frame_X8_isFlow : GoodIn wsX8_frame (va_wsS RX8 170 yX8_isFlow wsX8_isFlow) := goodIn_app (goodIn_of _ (by decide +kernel)) ggX8_frame_X8_isFlow
set_option maxRecDepth 20000 in
theorem ggX8_frame_X8_isSending : GoodIn wsX8_frame wsX8_isSending := goodIn_r _ [16, 1, 17, 18, 5, 19, 20, 21, 22, 23, 24, 25, 26, 27, 28, 29, 30, 31, 32, 33, 34, 35, 36, 37] (by decide +kernel) (by decide +kernel)
set_option maxRecDepth 20000 in
theorem gX8_frame_X8_isSending : GoodIn wsX8_frame (wsV RX8 138 RX8 yX8_isSending wsX8_isSending) := goodIn_app (goodIn_of _ (by decide +kernel)) ggX8_frame_X8_isSending
theorem dX8_frame_0 : decode cX8_frame 0 = .ok (.iload_n 1, 1) := by decide +kernel
theorem dX8_frame_1 : decode cX8_frame 1 = .ok (.invokestatic 108, 3) := by decide +kernel
theorem dX8_frame_4 : decode cX8_frame 4 = .ok (.ifCond .eq 10, 3) := by decide +kernel
theorem dX8_frame_7 : decode cX8_frame 7 = .ok (.iload_n 2, 1) := by decide +kernel
theorem dX8_frame_8 : decode cX8_frame 8 = .ok (.invokestatic 170, 3) := by decide +kernel
theorem dX8_frame_11 : decode cX8_frame 11 = .ok (.ifCond .ne 5, 3) := by decide +kernel
theorem dX8_frame_14 : decode cX8_frame 14 = .ok (.iconst (-1), 1) := by decide +kernel
theorem dX8_frame_15 : decode cX8_frame 15 = .ok (.ireturn, 1) := by decide +kernel
theorem dX8_frame_16 : decode cX8_frame 16 = .ok (.bipush 10, 2) := by decide +kernel
theorem dX8_frame_18 : decode cX8_frame 18 = .ok (.iconst 2, 1) := by decide +kernel
theorem dX8_frame_19 : decode cX8_frame 19 = .ok (.bipush 8, 2) := by decide +kernel
theorem dX8_frame_21 : decode cX8_frame 21 = .ok (.iload_n 1, 1) := by decide +kernel
theorem dX8_frame_22 : decode cX8_frame 22 = .ok (.imul, 1) := by decide +kernel
theorem dX8_frame_23 : decode cX8_frame 23 = .ok (.iload_n 2, 1) := by decide +kernel
theorem dX8_frame_24 : decode cX8_frame 24 = .ok (.iadd, 1) := by decide +kernel
theorem dX8_frame_25 : decode cX8_frame 25 = .ok (.imul, 1) := by decide +kernel
theorem dX8_frame_26 : decode cX8_frame 26 = .ok (.iadd, 1) := by decide +kernel
theorem dX8_frame_27 : decode cX8_frame 27 = .ok (.istore_n 3, 1) := by decide +kernel
theorem dX8_frame_28 : decode cX8_frame 28 = .ok (.aload_n 0, 1) := by decide +kernel
theorem dX8_frame_29 : decode cX8_frame 29 = .ok (.getfield 7, 3) := by decide +kernel
theorem dX8_frame_32 : decode cX8_frame 32 = .ok (.iload_n 3, 1) := by decide +kernel
theorem dX8_frame_33 : decode cX8_frame 33 = .ok (.iconst 1, 1) := by decide +kernel
theorem dX8_frame_34 : decode cX8_frame 34 = .ok (.iadd, 1) := by decide +kernel
theorem dX8_frame_35 : decode cX8_frame 35 = .ok (.iaload, 1) := by decide +kernel
theorem dX8_frame_36 : decode cX8_frame 36 = .ok (.ifCond .le 6, 3) := by decide +kernel
theorem dX8_frame_39 : decode cX8_frame 39 = .ok (.bipush (-2), 2) := by decide +kernel
theorem dX8_frame_41 : decode cX8_frame 41 = .ok (.ireturn, 1) := by decide +kernel
theorem dX8_frame_42 : decode cX8_frame 42 = .ok (.aload_n 0, 1) := by decide +kernel
theorem dX8_frame_43 : decode cX8_frame 43 = .ok (.getfield 7, 3) := by decide +kernel
theorem dX8_frame_46 : decode cX8_frame 46 = .ok (.iload_n 3, 1) := by decide +kernel
theorem dX8_frame_47 : decode cX8_frame 47 = .ok (.iaload, 1) := by decide +kernel
theorem dX8_frame_48 : decode cX8_frame 48 = .ok (.istore 4, 2) := by decide +kernel
theorem dX8_frame_50 : decode cX8_frame 50 = .ok (.iload 4, 2) := by decide +kernel
theorem dX8_frame_52 : decode cX8_frame 52 = .ok (.bipush (-4), 2) := by decide +kernel
theorem dX8_frame_54 : decode cX8_frame 54 = .ok (.if_icmp .eq 13, 3) := by decide +kernel
theorem dX8_frame_57 : decode cX8_frame 57 = .ok (.aload_n 0, 1) := by decide +kernel
theorem dX8_frame_58 : decode cX8_frame 58 = .ok (.iload_n 1, 1) := by decide +kernel
theorem dX8_frame_59 : decode cX8_frame 59 = .ok (.iload 4, 2) := by decide +kernel
theorem dX8_frame_61 : decode cX8_frame 61 = .ok (.invokevirtual 138, 3) := by decide +kernel
theorem dX8_frame_64 : decode cX8_frame 64 = .ok (.ifCond .ne 6, 3) := by decide +kernel
theorem dX8_frame_67 : decode cX8_frame 67 = .ok (.bipush (-4), 2) := by decide +kernel
theorem dX8_frame_69 : decode cX8_frame 69 = .ok (.ireturn, 1) := by decide +kernel
theorem dX8_frame_70 : decode cX8_frame 70 = .ok (.aload_n 0, 1) := by decide +kernel
theorem dX8_frame_71 : decode cX8_frame 71 = .ok (.getfield 19, 3) := by decide +kernel
theorem dX8_frame_74 : decode cX8_frame 74 = .ok (.bipush 6, 2) := by decide +kernel
theorem dX8_frame_76 : decode cX8_frame 76 = .ok (.iload_n 1, 1) := by decide +kernel
theorem dX8_frame_77 : decode cX8_frame 77 = .ok (.imul, 1) := by decide +kernel
theorem dX8_frame_78 : decode cX8_frame 78 = .ok (.iload 4, 2) := by decide +kernel
theorem dX8_frame_80 : decode cX8_frame 80 = .ok (.iadd, 1) := by decide +kernel
theorem dX8_frame_81 : decode cX8_frame 81 = .ok (.dup2, 1) := by decide +kernel
theorem dX8_frame_82 : decode cX8_frame 82 = .ok (.iaload, 1) := by decide +kernel
theorem dX8_frame_83 : decode cX8_frame 83 = .ok (.iconst 1, 1) := by decide +kernel
theorem dX8_frame_84 : decode cX8_frame 84 = .ok (.iadd, 1) := by decide +kernel
theorem dX8_frame_85 : decode cX8_frame 85 = .ok (.iastore, 1) := by decide +kernel
theorem dX8_frame_86 : decode cX8_frame 86 = .ok (.iload 4, 2) := by decide +kernel
theorem dX8_frame_88 : decode cX8_frame 88 = .ok (.ireturn, 1) := by decide +kernel
set_option maxRecDepth 20000 in
theorem ggX8_frames_X8_isEnd : GoodIn wsX8_frames wsX8_isEnd := goodIn_r _ [5] (by decide +kernel) (by decide +kernel)
set_option maxRecDepth 20000 in
theorem gX8_frames_X8_isEnd : GoodIn wsX8_frames (va_wsS RX8 108 yX8_isEnd wsX8_isEnd) := goodIn_app (goodIn_of _ (by decide +kernel)) ggX8_frames_X8_isEnd
set_option maxRecDepth 20000 in
theorem ggX8_frames_X8_isLink : GoodIn wsX8_frames wsX8_isLink := goodIn_r _ [9, 10, 11, 12, 4, 13, 14, 15, 16, 17, 18, 19, 20, 21, 22, 23, 24, 25, 26, 27, 28, 29, 30, 31] (by decide +kernel) (by decide +kernel)
set_option maxRecDepth 20000 in
theorem gX8_frames_X8_isLink : GoodIn wsX8_frames (wsV RX8 99 RX8 yX8_isLink wsX8_isLink) := goodIn_app (goodIn_of _ (by decide +kernel)) ggX8_frames_X8_isLink
theorem dX8_frames_0 : decode cX8_frames 0 = .ok (.iload_n 1, 1) := by decide +kernel
theorem dX8_frames_1 : decode cX8_frames 1 = .ok (.invokestatic 108, 3) := by decide +kernel
theorem dX8_frames_4 : decode cX8_frames 4 = .ok (.ifCond .eq 25, 3) := by decide +kernel
theorem dX8_frames_7 : decode cX8_frames 7 = .ok (.aload_n 0, 1) := by decide +kernel
theorem dX8_frames_8 : decode cX8_frames 8 = .ok (.iload_n 2, 1) := by decide +kernel
theorem dX8_frames_9 : decode cX8_frames 9 = .ok (.invokevirtual 99, 3) := by decide +kernel
theorem dX8_frames_12 : decode cX8_frames 12 = .ok (.ifCond .eq 17, 3) := by decide +kernel
theorem dX8_frames_15 : decode cX8_frames 15 = .ok (.aload_n 0, 1) := by decide +kernel
theorem dX8_frames_16 : decode cX8_frames 16 = .ok (.getfield 19, 3) := by decide +kernel
theorem dX8_frames_19 : decode cX8_frames 19 = .ok (.bipush 6, 2) := by decide +kernel
theorem dX8_frames_21 : decode cX8_frames 21 = .ok (.iload_n 1, 1) := by decide +kernel
theorem dX8_frames_22 : decode cX8_frames 22 = .ok (.imul, 1) := by decide +kernel
theorem dX8_frames_23 : decode cX8_frames 23 = .ok (.iload_n 2, 1) := by decide +kernel
theorem dX8_frames_24 : decode cX8_frames 24 = .ok (.iadd, 1) := by decide +kernel
theorem dX8_frames_25 : decode cX8_frames 25 = .ok (.iaload, 1) := by decide +kernel
theorem dX8_frames_26 : decode cX8_frames 26 = .ok (.goto 4, 3) := by decide +kernel
theorem dX8_frames_29 : decode cX8_frames 29 = .ok (.iconst (-1), 1) := by decide +kernel
theorem dX8_frames_30 : decode cX8_frames 30 = .ok (.ireturn, 1) := by decide +kernel
theorem dX8_isOther_0 : decode cX8_isOther 0 = .ok (.iconst 0, 1) := by decide +kernel
theorem dX8_isOther_1 : decode cX8_isOther 1 = .ok (.istore_n 1, 1) := by decide +kernel
theorem dX8_isOther_2 : decode cX8_isOther 2 = .ok (.iconst 0, 1) := by decide +kernel
theorem dX8_isOther_3 : decode cX8_isOther 3 = .ok (.istore_n 2, 1) := by decide +kernel
theorem dX8_isOther_4 : decode cX8_isOther 4 = .ok (.iload_n 2, 1) := by decide +kernel
theorem dX8_isOther_5 : decode cX8_isOther 5 = .ok (.bipush 12, 2) := by decide +kernel
theorem dX8_isOther_7 : decode cX8_isOther 7 = .ok (.if_icmp .ge 52, 3) := by decide +kernel
theorem dX8_isOther_10 : decode cX8_isOther 10 = .ok (.aload_n 0, 1) := by decide +kernel
theorem dX8_isOther_11 : decode cX8_isOther 11 = .ok (.getfield 7, 3) := by decide +kernel
theorem dX8_isOther_14 : decode cX8_isOther 14 = .ok (.bipush 42, 2) := by decide +kernel
theorem dX8_isOther_16 : decode cX8_isOther 16 = .ok (.bipush 16, 2) := by decide +kernel
theorem dX8_isOther_18 : decode cX8_isOther 18 = .ok (.iload_n 2, 1) := by decide +kernel
theorem dX8_isOther_19 : decode cX8_isOther 19 = .ok (.imul, 1) := by decide +kernel
theorem dX8_isOther_20 : decode cX8_isOther 20 = .ok (.iadd, 1) := by decide +kernel
theorem dX8_isOther_21 : decode cX8_isOther 21 = .ok (.bipush 14, 2) := by decide +kernel
theorem dX8_isOther_23 : decode cX8_isOther 23 = .ok (.iadd, 1) := by decide +kernel
theorem dX8_isOther_24 : decode cX8_isOther 24 = .ok (.iaload, 1) := by decide +kernel
theorem dX8_isOther_25 : decode cX8_isOther 25 = .ok (.istore_n 3, 1) := by decide +kernel
theorem dX8_isOther_26 : decode cX8_isOther 26 = .ok (.iload_n 1, 1) := by decide +kernel
theorem dX8_isOther_27 : decode cX8_isOther 27 = .ok (.ifCond .ne 13, 3) := by decide +kernel
theorem dX8_isOther_30 : decode cX8_isOther 30 = .ok (.iload_n 3, 1) := by decide +kernel
theorem dX8_isOther_31 : decode cX8_isOther 31 = .ok (.aload_n 0, 1) := by decide +kernel
theorem dX8_isOther_32 : decode cX8_isOther 32 = .ok (.getfield 41, 3) := by decide +kernel
theorem dX8_isOther_35 : decode cX8_isOther 35 = .ok (.iload_n 2, 1) := by decide +kernel
theorem dX8_isOther_36 : decode cX8_isOther 36 = .ok (.iaload, 1) := by decide +kernel
theorem dX8_isOther_37 : decode cX8_isOther 37 = .ok (.if_icmp .eq 7, 3) := by decide +kernel
theorem dX8_isOther_40 : decode cX8_isOther 40 = .ok (.iconst 1, 1) := by decide +kernel
theorem dX8_isOther_41 : decode cX8_isOther 41 = .ok (.goto 4, 3) := by decide +kernel
theorem dX8_isOther_44 : decode cX8_isOther 44 = .ok (.iconst 0, 1) := by decide +kernel
theorem dX8_isOther_45 : decode cX8_isOther 45 = .ok (.istore_n 1, 1) := by decide +kernel
theorem dX8_isOther_46 : decode cX8_isOther 46 = .ok (.aload_n 0, 1) := by decide +kernel
theorem dX8_isOther_47 : decode cX8_isOther 47 = .ok (.getfield 41, 3) := by decide +kernel
theorem dX8_isOther_50 : decode cX8_isOther 50 = .ok (.iload_n 2, 1) := by decide +kernel
theorem dX8_isOther_51 : decode cX8_isOther 51 = .ok (.iload_n 3, 1) := by decide +kernel
theorem dX8_isOther_52 : decode cX8_isOther 52 = .ok (.iastore, 1) := by decide +kernel
theorem dX8_isOther_53 : decode cX8_isOther 53 = .ok (.iinc 2 1, 3) := by decide +kernel
theorem dX8_isOther_56 : decode cX8_isOther 56 = .ok (.goto (-52), 3) := by decide +kernel
theorem dX8_isOther_59 : decode cX8_isOther 59 = .ok (.iconst 0, 1) := by decide +kernel
theorem dX8_isOther_60 : decode cX8_isOther 60 = .ok (.istore_n 2, 1) := by decide +kernel
theorem dX8_isOther_61 : decode cX8_isOther 61 = .ok (.iload_n 2, 1) := by decide +kernel
theorem dX8_isOther_62 : decode cX8_isOther 62 = .ok (.bipush 16, 2) := by decide +kernel
theorem dX8_isOther_64 : decode cX8_isOther 64 = .ok (.if_icmp .ge 54, 3) := by decide +kernel
theorem dX8_isOther_67 : decode cX8_isOther 67 = .ok (.aload_n 0, 1) := by decide +kernel
theorem dX8_isOther_68 : decode cX8_isOther 68 = .ok (.getfield 7, 3) := by decide +kernel
theorem dX8_isOther_71 : decode cX8_isOther 71 = .ok (.bipush 10, 2) := by decide +kernel
theorem dX8_isOther_73 : decode cX8_isOther 73 = .ok (.iconst 2, 1) := by decide +kernel
theorem dX8_isOther_74 : decode cX8_isOther 74 = .ok (.iload_n 2, 1) := by decide +kernel
theorem dX8_isOther_75 : decode cX8_isOther 75 = .ok (.imul, 1) := by decide +kernel
theorem dX8_isOther_76 : decode cX8_isOther 76 = .ok (.iadd, 1) := by decide +kernel
theorem dX8_isOther_77 : decode cX8_isOther 77 = .ok (.iaload, 1) := by decide +kernel
theorem dX8_isOther_78 : decode cX8_isOther 78 = .ok (.istore_n 3, 1) := by decide +kernel
theorem dX8_isOther_79 : decode cX8_isOther 79 = .ok (.iload_n 1, 1) := by decide +kernel
theorem dX8_isOther_80 : decode cX8_isOther 80 = .ok (.ifCond .ne 16, 3) := by decide +kernel
theorem dX8_isOther_83 : decode cX8_isOther 83 = .ok (.iload_n 3, 1) := by decide +kernel
theorem dX8_isOther_84 : decode cX8_isOther 84 = .ok (.aload_n 0, 1) := by decide +kernel
theorem dX8_isOther_85 : decode cX8_isOther 85 = .ok (.getfield 41, 3) := by decide +kernel
theorem dX8_isOther_88 : decode cX8_isOther 88 = .ok (.bipush 12, 2) := by decide +kernel
theorem dX8_isOther_90 : decode cX8_isOther 90 = .ok (.iload_n 2, 1) := by decide +kernel
theorem dX8_isOther_91 : decode cX8_isOther 91 = .ok (.iadd, 1) := by decide +kernel
theorem dX8_isOther_92 : decode cX8_isOther 92 = .ok (.iaload, 1) := by decide +kernel
theorem dX8_isOther_93 : decode cX8_isOther 93 = .ok (.if_icmp .eq 7, 3) := by decide +kernel
theorem dX8_isOther_96 : decode cX8_isOther 96 = .ok (.iconst 1, 1) := by decide +kernel
theorem dX8_isOther_97 : decode cX8_isOther 97 = .ok (.goto 4, 3) := by decide +kernel
theorem dX8_isOther_100 : decode cX8_isOther 100 = .ok (.iconst 0, 1) := by decide +kernel
theorem dX8_isOther_101 : decode cX8_isOther 101 = .ok (.istore_n 1, 1) := by decide +kernel
theorem dX8_isOther_102 : decode cX8_isOther 102 = .ok (.aload_n 0, 1) := by decide +kernel
theorem dX8_isOther_103 : decode cX8_isOther 103 = .ok (.getfield 41, 3) := by decide +kernel
theorem dX8_isOther_106 : decode cX8_isOther 106 = .ok (.bipush 12, 2) := by decide +kernel
theorem dX8_isOther_108 : decode cX8_isOther 108 = .ok (.iload_n 2, 1) := by decide +kernel
theorem dX8_isOther_109 : decode cX8_isOther 109 = .ok (.iadd, 1) := by decide +kernel
theorem dX8_isOther_110 : decode cX8_isOther 110 = .ok (.iload_n 3, 1) := by decide +kernel
theorem dX8_isOther_111 : decode cX8_isOther 111 = .ok (.iastore, 1) := by decide +kernel
theorem dX8_isOther_112 : decode cX8_isOther 112 = .ok (.iinc 2 1, 3) := by decide +kernel
theorem dX8_isOther_115 : decode cX8_isOther 115 = .ok (.goto (-54), 3) := by decide +kernel
theorem dX8_isOther_118 : decode cX8_isOther 118 = .ok (.iload_n 1, 1) := by decide +kernel
theorem dX8_isOther_119 : decode cX8_isOther 119 = .ok (.ireturn, 1) := by decide +kernel
set_option maxRecDepth 20000 in
theorem ggX8_fewest_X8_isOther : GoodIn wsX8_fewest wsX8_isOther := goodIn_r _ [5, 6, 7, 71, 72, 73, 74, 75, 76, 77, 78, 79, 80, 81, 82, 83, 84, 85, 86, 87, 88] (by decide +kernel) (by decide +kernel)
set_option maxRecDepth 20000 in
theorem gX8_fewest_X8_isOther : GoodIn wsX8_fewest (wsV RX8 173 RX8 yX8_isOther wsX8_isOther) := goodIn_app (goodIn_of _ (by decide +kernel)) ggX8_fewest_X8_isOther
set_option maxRecDepth 20000 in
theorem ggX8_fewest_X8_ticks : GoodIn wsX8_fewest wsX8_ticks := goodIn_r _ [11, 6, 12, 13, 14, 15, 4, 16, 17, 18, 19, 20, 21, 22, 23, 24, 25, 26, 27, 28, 29, 30, 31, 32, 33, 34, 35, 36, 37, 38, 39, 40, 41, 42, 43, 44, 45, 46, 47, 48, 49, 50, 51, 52, 53, 54, 55, 56, 57, 58, 59, 60, 61, 62, 63, 64, 65, 66, 67, 68, 69, 70, 71, 72, 73, 74, 75, 76, 77, 78, 79, 80, 81, 82, 83, 84, 85, 86, 87, 88] (by decide +kernel) (by decide +kernel)
set_option maxRecDepth 20000 in
theorem gX8_fewest_X8_ticks : GoodIn wsX8_fewest (wsV RX8 161 RX8 yX8_ticks wsX8_ticks) := goodIn_app (goodIn_of _ (by decide +kernel)) ggX8_fewest_X8_ticks
theorem dX8_fewest_0 : decode cX8_fewest 0 = .ok (.iconst 0, 1) := by decide +kernel
theorem dX8_fewest_1 : decode cX8_fewest 1 = .ok (.istore_n 1, 1) := by decide +kernel
theorem dX8_fewest_2 : decode cX8_fewest 2 = .ok (.aload_n 0, 1) := by decide +kernel
theorem dX8_fewest_3 : decode cX8_fewest 3 = .ok (.invokevirtual 173, 3) := by decide +kernel
theorem dX8_fewest_6 : decode cX8_fewest 6 = .ok (.istore_n 2, 1) := by decide +kernel
theorem dX8_fewest_7 : decode cX8_fewest 7 = .ok (.iconst 1, 1) := by decide +kernel
theorem dX8_fewest_8 : decode cX8_fewest 8 = .ok (.istore_n 3, 1) := by decide +kernel
theorem dX8_fewest_9 : decode cX8_fewest 9 = .ok (.iload_n 3, 1) := by decide +kernel
theorem dX8_fewest_10 : decode cX8_fewest 10 = .ok (.bipush 46, 2) := by decide +kernel
theorem dX8_fewest_12 : decode cX8_fewest 12 = .ok (.if_icmp .gt 38, 3) := by decide +kernel
theorem dX8_fewest_15 : decode cX8_fewest 15 = .ok (.aload_n 0, 1) := by decide +kernel
theorem dX8_fewest_16 : decode cX8_fewest 16 = .ok (.invokevirtual 161, 3) := by decide +kernel
theorem dX8_fewest_19 : decode cX8_fewest 19 = .ok (.aload_n 0, 1) := by decide +kernel
theorem dX8_fewest_20 : decode cX8_fewest 20 = .ok (.invokevirtual 173, 3) := by decide +kernel
theorem dX8_fewest_23 : decode cX8_fewest 23 = .ok (.istore_n 2, 1) := by decide +kernel
theorem dX8_fewest_24 : decode cX8_fewest 24 = .ok (.iload_n 2, 1) := by decide +kernel
theorem dX8_fewest_25 : decode cX8_fewest 25 = .ok (.ifCond .eq 7, 3) := by decide +kernel
theorem dX8_fewest_28 : decode cX8_fewest 28 = .ok (.iload_n 3, 1) := by decide +kernel
theorem dX8_fewest_29 : decode cX8_fewest 29 = .ok (.goto 4, 3) := by decide +kernel
theorem dX8_fewest_32 : decode cX8_fewest 32 = .ok (.iload_n 1, 1) := by decide +kernel
theorem dX8_fewest_33 : decode cX8_fewest 33 = .ok (.istore_n 1, 1) := by decide +kernel
theorem dX8_fewest_34 : decode cX8_fewest 34 = .ok (.iload_n 3, 1) := by decide +kernel
theorem dX8_fewest_35 : decode cX8_fewest 35 = .ok (.iload_n 1, 1) := by decide +kernel
theorem dX8_fewest_36 : decode cX8_fewest 36 = .ok (.isub, 1) := by decide +kernel
theorem dX8_fewest_37 : decode cX8_fewest 37 = .ok (.bipush 6, 2) := by decide +kernel
theorem dX8_fewest_39 : decode cX8_fewest 39 = .ok (.if_icmp .ne 5, 3) := by decide +kernel
theorem dX8_fewest_42 : decode cX8_fewest 42 = .ok (.iload_n 1, 1) := by decide +kernel
theorem dX8_fewest_43 : decode cX8_fewest 43 = .ok (.ireturn, 1) := by decide +kernel
theorem dX8_fewest_44 : decode cX8_fewest 44 = .ok (.iinc 3 1, 3) := by decide +kernel
theorem dX8_fewest_47 : decode cX8_fewest 47 = .ok (.goto (-38), 3) := by decide +kernel
theorem dX8_fewest_50 : decode cX8_fewest 50 = .ok (.bipush (-4), 2) := by decide +kernel
theorem dX8_fewest_52 : decode cX8_fewest 52 = .ok (.ireturn, 1) := by decide +kernel
set_option maxRecDepth 20000 in
theorem ggX8_settled_X8_fewest : GoodIn wsX8_settled wsX8_fewest := goodIn_r _ [7, 8, 9, 10, 6, 11, 2, 12, 13, 14, 15, 16, 17, 18, 19, 20, 21, 22, 23, 24, 25, 26, 27, 28, 29, 30, 31, 32, 33, 34, 35, 36, 37, 38, 39, 40, 41, 42, 43, 44, 45, 46, 47, 48, 49, 50, 51, 52, 53, 54, 55, 56, 57, 58, 59, 60, 61, 62, 63, 64, 65, 66, 67, 68, 69, 70, 71, 72, 73, 74, 75, 76, 77, 78, 79, 80, 81, 82, 83, 84, 85, 86, 87, 88, 89, 90, 91, 92, 93] (by decide +kernel) (by decide +kernel)
set_option maxRecDepth 20000 in
theorem gX8_settled_X8_fewest : GoodIn wsX8_settled (wsV RX8 176 RX8 yX8_fewest wsX8_fewest) := goodIn_app (goodIn_of _ (by decide +kernel)) ggX8_settled_X8_fewest
theorem dX8_settled_0 : decode cX8_settled 0 = .ok (.iconst 0, 1) := by decide +kernel
theorem dX8_settled_1 : decode cX8_settled 1 = .ok (.istore_n 1, 1) := by decide +kernel
theorem dX8_settled_2 : decode cX8_settled 2 = .ok (.iload_n 1, 1) := by decide +kernel
theorem dX8_settled_3 : decode cX8_settled 3 = .ok (.sipush 235, 3) := by decide +kernel
theorem dX8_settled_6 : decode cX8_settled 6 = .ok (.if_icmp .ge 21, 3) := by decide +kernel
theorem dX8_settled_9 : decode cX8_settled 9 = .ok (.aload_n 0, 1) := by decide +kernel
theorem dX8_settled_10 : decode cX8_settled 10 = .ok (.getfield 13, 3) := by decide +kernel
theorem dX8_settled_13 : decode cX8_settled 13 = .ok (.iload_n 1, 1) := by decide +kernel
theorem dX8_settled_14 : decode cX8_settled 14 = .ok (.aload_n 0, 1) := by decide +kernel
theorem dX8_settled_15 : decode cX8_settled 15 = .ok (.getfield 7, 3) := by decide +kernel
theorem dX8_settled_18 : decode cX8_settled 18 = .ok (.iload_n 1, 1) := by decide +kernel
theorem dX8_settled_19 : decode cX8_settled 19 = .ok (.iaload, 1) := by decide +kernel
theorem dX8_settled_20 : decode cX8_settled 20 = .ok (.iastore, 1) := by decide +kernel
theorem dX8_settled_21 : decode cX8_settled 21 = .ok (.iinc 1 1, 3) := by decide +kernel
theorem dX8_settled_24 : decode cX8_settled 24 = .ok (.goto (-22), 3) := by decide +kernel
theorem dX8_settled_27 : decode cX8_settled 27 = .ok (.aload_n 0, 1) := by decide +kernel
theorem dX8_settled_28 : decode cX8_settled 28 = .ok (.invokevirtual 176, 3) := by decide +kernel
theorem dX8_settled_31 : decode cX8_settled 31 = .ok (.istore_n 1, 1) := by decide +kernel
theorem dX8_settled_32 : decode cX8_settled 32 = .ok (.iconst 0, 1) := by decide +kernel
theorem dX8_settled_33 : decode cX8_settled 33 = .ok (.istore_n 2, 1) := by decide +kernel
theorem dX8_settled_34 : decode cX8_settled 34 = .ok (.iload_n 2, 1) := by decide +kernel
theorem dX8_settled_35 : decode cX8_settled 35 = .ok (.sipush 235, 3) := by decide +kernel
theorem dX8_settled_38 : decode cX8_settled 38 = .ok (.if_icmp .ge 21, 3) := by decide +kernel
theorem dX8_settled_41 : decode cX8_settled 41 = .ok (.aload_n 0, 1) := by decide +kernel
theorem dX8_settled_42 : decode cX8_settled 42 = .ok (.getfield 7, 3) := by decide +kernel
theorem dX8_settled_45 : decode cX8_settled 45 = .ok (.iload_n 2, 1) := by decide +kernel
theorem dX8_settled_46 : decode cX8_settled 46 = .ok (.aload_n 0, 1) := by decide +kernel
theorem dX8_settled_47 : decode cX8_settled 47 = .ok (.getfield 13, 3) := by decide +kernel
theorem dX8_settled_50 : decode cX8_settled 50 = .ok (.iload_n 2, 1) := by decide +kernel
theorem dX8_settled_51 : decode cX8_settled 51 = .ok (.iaload, 1) := by decide +kernel
theorem dX8_settled_52 : decode cX8_settled 52 = .ok (.iastore, 1) := by decide +kernel
theorem dX8_settled_53 : decode cX8_settled 53 = .ok (.iinc 2 1, 3) := by decide +kernel
theorem dX8_settled_56 : decode cX8_settled 56 = .ok (.goto (-22), 3) := by decide +kernel
theorem dX8_settled_59 : decode cX8_settled 59 = .ok (.iload_n 1, 1) := by decide +kernel
theorem dX8_settled_60 : decode cX8_settled 60 = .ok (.ireturn, 1) := by decide +kernel
set_option maxRecDepth 20000 in
theorem ggX8_count_X8_upMany : GoodIn wsX8_count wsX8_upMany := goodIn_r _ [11, 1, 2, 12, 13, 14, 15, 16, 17, 18, 19, 20, 21, 22, 23, 24, 25, 26, 27, 28, 29] (by decide +kernel) (by decide +kernel)
set_option maxRecDepth 20000 in
theorem gX8_count_X8_upMany : GoodIn wsX8_count (wsV RX8 105 RX8 yX8_upMany wsX8_upMany) := goodIn_app (goodIn_of _ (by decide +kernel)) ggX8_count_X8_upMany
theorem dX8_count_0 : decode cX8_count 0 = .ok (.iload_n 1, 1) := by decide +kernel
theorem dX8_count_1 : decode cX8_count 1 = .ok (.tableswitch 113 0 9 #[55, 60, 65, 72, 79, 86, 91, 96, 103, 108], 55) := by decide +kernel
theorem dX8_count_56 : decode cX8_count 56 = .ok (.aload_n 0, 1) := by decide +kernel
theorem dX8_count_57 : decode cX8_count 57 = .ok (.getfield 83, 3) := by decide +kernel
theorem dX8_count_60 : decode cX8_count 60 = .ok (.ireturn, 1) := by decide +kernel
theorem dX8_count_61 : decode cX8_count 61 = .ok (.aload_n 0, 1) := by decide +kernel
theorem dX8_count_62 : decode cX8_count 62 = .ok (.invokevirtual 105, 3) := by decide +kernel
theorem dX8_count_65 : decode cX8_count 65 = .ok (.ireturn, 1) := by decide +kernel
theorem dX8_count_66 : decode cX8_count 66 = .ok (.aload_n 0, 1) := by decide +kernel
theorem dX8_count_67 : decode cX8_count 67 = .ok (.getfield 7, 3) := by decide +kernel
theorem dX8_count_70 : decode cX8_count 70 = .ok (.iconst 0, 1) := by decide +kernel
theorem dX8_count_71 : decode cX8_count 71 = .ok (.iaload, 1) := by decide +kernel
theorem dX8_count_72 : decode cX8_count 72 = .ok (.ireturn, 1) := by decide +kernel
theorem dX8_count_73 : decode cX8_count 73 = .ok (.aload_n 0, 1) := by decide +kernel
theorem dX8_count_74 : decode cX8_count 74 = .ok (.getfield 7, 3) := by decide +kernel
theorem dX8_count_77 : decode cX8_count 77 = .ok (.iconst 1, 1) := by decide +kernel
theorem dX8_count_78 : decode cX8_count 78 = .ok (.iaload, 1) := by decide +kernel
theorem dX8_count_79 : decode cX8_count 79 = .ok (.ireturn, 1) := by decide +kernel
theorem dX8_count_80 : decode cX8_count 80 = .ok (.aload_n 0, 1) := by decide +kernel
theorem dX8_count_81 : decode cX8_count 81 = .ok (.getfield 7, 3) := by decide +kernel
theorem dX8_count_84 : decode cX8_count 84 = .ok (.iconst 2, 1) := by decide +kernel
theorem dX8_count_85 : decode cX8_count 85 = .ok (.iaload, 1) := by decide +kernel
theorem dX8_count_86 : decode cX8_count 86 = .ok (.ireturn, 1) := by decide +kernel
theorem dX8_count_87 : decode cX8_count 87 = .ok (.aload_n 0, 1) := by decide +kernel
theorem dX8_count_88 : decode cX8_count 88 = .ok (.getfield 86, 3) := by decide +kernel
theorem dX8_count_91 : decode cX8_count 91 = .ok (.ireturn, 1) := by decide +kernel
theorem dX8_count_92 : decode cX8_count 92 = .ok (.aload_n 0, 1) := by decide +kernel
theorem dX8_count_93 : decode cX8_count 93 = .ok (.getfield 89, 3) := by decide +kernel
theorem dX8_count_96 : decode cX8_count 96 = .ok (.ireturn, 1) := by decide +kernel
theorem dX8_count_97 : decode cX8_count 97 = .ok (.aload_n 0, 1) := by decide +kernel
theorem dX8_count_98 : decode cX8_count 98 = .ok (.getfield 7, 3) := by decide +kernel
theorem dX8_count_101 : decode cX8_count 101 = .ok (.iconst 3, 1) := by decide +kernel
theorem dX8_count_102 : decode cX8_count 102 = .ok (.iaload, 1) := by decide +kernel
theorem dX8_count_103 : decode cX8_count 103 = .ok (.ireturn, 1) := by decide +kernel
theorem dX8_count_104 : decode cX8_count 104 = .ok (.aload_n 0, 1) := by decide +kernel
theorem dX8_count_105 : decode cX8_count 105 = .ok (.getfield 96, 3) := by decide +kernel
theorem dX8_count_108 : decode cX8_count 108 = .ok (.ireturn, 1) := by decide +kernel
theorem dX8_count_109 : decode cX8_count 109 = .ok (.aload_n 0, 1) := by decide +kernel
theorem dX8_count_110 : decode cX8_count 110 = .ok (.getfield 61, 3) := by decide +kernel
theorem dX8_count_113 : decode cX8_count 113 = .ok (.ireturn, 1) := by decide +kernel
theorem dX8_count_114 : decode cX8_count 114 = .ok (.iconst (-1), 1) := by decide +kernel
theorem dX8_count_115 : decode cX8_count 115 = .ok (.ireturn, 1) := by decide +kernel
theorem dJ9_min_7cf53_0 : decode cJ9_min_7cf53 0 = .ok (.iload_n 0, 1) := by decide +kernel
theorem dJ9_min_7cf53_1 : decode cJ9_min_7cf53 1 = .ok (.iload_n 1, 1) := by decide +kernel
theorem dJ9_min_7cf53_2 : decode cJ9_min_7cf53 2 = .ok (.if_icmp .gt 7, 3) := by decide +kernel
theorem dJ9_min_7cf53_5 : decode cJ9_min_7cf53 5 = .ok (.iload_n 0, 1) := by decide +kernel
theorem dJ9_min_7cf53_6 : decode cJ9_min_7cf53 6 = .ok (.goto 4, 3) := by decide +kernel
theorem dJ9_min_7cf53_9 : decode cJ9_min_7cf53 9 = .ok (.iload_n 1, 1) := by decide +kernel
theorem dJ9_min_7cf53_10 : decode cJ9_min_7cf53 10 = .ok (.ireturn, 1) := by decide +kernel
set_option maxRecDepth 20000 in
theorem ggJ0_length_8abf5_J0_coder_7d493 : GoodIn wsJ0_length_8abf5 wsJ0_coder_7d493 := goodIn_r _ [6, 7, 8] (by decide +kernel) (by decide +kernel)
set_option maxRecDepth 20000 in
theorem gJ0_length_8abf5_J0_coder_7d493 : GoodIn wsJ0_length_8abf5 (wsV RJ0 335 RJ0 yJ0_coder_7d493 wsJ0_coder_7d493) := goodIn_app (goodIn_of _ (by decide +kernel)) ggJ0_length_8abf5_J0_coder_7d493
theorem dJ0_length_8abf5_0 : decode cJ0_length_8abf5 0 = .ok (.aload_n 0, 1) := by decide +kernel
theorem dJ0_length_8abf5_1 : decode cJ0_length_8abf5 1 = .ok (.getfield 9, 3) := by decide +kernel
theorem dJ0_length_8abf5_4 : decode cJ0_length_8abf5 4 = .ok (.arraylength, 1) := by decide +kernel
theorem dJ0_length_8abf5_5 : decode cJ0_length_8abf5 5 = .ok (.aload_n 0, 1) := by decide +kernel
theorem dJ0_length_8abf5_6 : decode cJ0_length_8abf5 6 = .ok (.invokevirtual 335, 3) := by decide +kernel
theorem dJ0_length_8abf5_9 : decode cJ0_length_8abf5 9 = .ok (.ishr, 1) := by decide +kernel
theorem dJ0_length_8abf5_10 : decode cJ0_length_8abf5 10 = .ok (.ireturn, 1) := by decide +kernel
set_option maxRecDepth 20000 in
theorem ggJ0_charAt_5068e_J0_isLatin1_aae02 : GoodIn wsJ0_charAt_5068e wsJ0_isLatin1_aae02 := goodIn_r _ [6, 7, 8] (by decide +kernel) (by decide +kernel)
set_option maxRecDepth 20000 in
theorem gJ0_charAt_5068e_J0_isLatin1_aae02 : GoodIn wsJ0_charAt_5068e (wsV RJ0 492 RJ0 yJ0_isLatin1_aae02 wsJ0_isLatin1_aae02) := goodIn_app (goodIn_of _ (by decide +kernel)) ggJ0_charAt_5068e_J0_isLatin1_aae02
set_option maxRecDepth 20000 in
theorem ggJ0_charAt_5068e_J1_charAt_3b067 : GoodIn wsJ0_charAt_5068e wsJ1_charAt_3b067 := goodIn_r _ [12, 13, 14, 5, 15, 16, 17, 18, 19, 20] (by decide +kernel) (by decide +kernel)
set_option maxRecDepth 20000 in
theorem gJ0_charAt_5068e_J1_charAt_3b067 : GoodIn wsJ0_charAt_5068e (va_wsS RJ0 495 yJ1_charAt_3b067 wsJ1_charAt_3b067) := goodIn_app (goodIn_of _ (by decide +kernel)) ggJ0_charAt_5068e_J1_charAt_3b067
set_option maxRecDepth 20000 in
theorem ggJ0_charAt_5068e_J2_charAt_3b067 : GoodIn wsJ0_charAt_5068e wsJ2_charAt_3b067 := goodIn_r _ [24, 25, 26, 23, 27, 28, 29, 30, 31, 14, 5, 15, 16, 17, 18, 19, 20, 32, 33, 34, 35, 36, 37] (by decide +kernel) (by decide +kernel)
set_option maxRecDepth 20000 in
theorem gJ0_charAt_5068e_J2_charAt_3b067 : GoodIn wsJ0_charAt_5068e (va_wsS RJ0 498 yJ2_charAt_3b067 wsJ2_charAt_3b067) := goodIn_app (goodIn_of _ (by decide +kernel)) ggJ0_charAt_5068e_J2_charAt_3b067
theorem dJ0_charAt_5068e_0 : decode cJ0_charAt_5068e 0 = .ok (.aload_n 0, 1) := by decide +kernel
theorem dJ0_charAt_5068e_1 : decode cJ0_charAt_5068e 1 = .ok (.invokevirtual 492, 3) := by decide +kernel
theorem dJ0_charAt_5068e_4 : decode cJ0_charAt_5068e 4 = .ok (.ifCond .eq 12, 3) := by decide +kernel
theorem dJ0_charAt_5068e_7 : decode cJ0_charAt_5068e 7 = .ok (.aload_n 0, 1) := by decide +kernel
theorem dJ0_charAt_5068e_8 : decode cJ0_charAt_5068e 8 = .ok (.getfield 9, 3) := by decide +kernel
theorem dJ0_charAt_5068e_11 : decode cJ0_charAt_5068e 11 = .ok (.iload_n 1, 1) := by decide +kernel
theorem dJ0_charAt_5068e_12 : decode cJ0_charAt_5068e 12 = .ok (.invokestatic 495, 3) := by decide +kernel
theorem dJ0_charAt_5068e_15 : decode cJ0_charAt_5068e 15 = .ok (.ireturn, 1) := by decide +kernel
theorem dJ0_charAt_5068e_16 : decode cJ0_charAt_5068e 16 = .ok (.aload_n 0, 1) := by decide +kernel
theorem dJ0_charAt_5068e_17 : decode cJ0_charAt_5068e 17 = .ok (.getfield 9, 3) := by decide +kernel
theorem dJ0_charAt_5068e_20 : decode cJ0_charAt_5068e 20 = .ok (.iload_n 1, 1) := by decide +kernel
theorem dJ0_charAt_5068e_21 : decode cJ0_charAt_5068e 21 = .ok (.invokestatic 498, 3) := by decide +kernel
theorem dJ0_charAt_5068e_24 : decode cJ0_charAt_5068e 24 = .ok (.ireturn, 1) := by decide +kernel
theorem dJ0_coder_7d493_0 : decode cJ0_coder_7d493 0 = .ok (.getstatic 38, 3) := by decide +kernel
theorem dJ0_coder_7d493_3 : decode cJ0_coder_7d493 3 = .ok (.ifCond .eq 10, 3) := by decide +kernel
theorem dJ0_coder_7d493_6 : decode cJ0_coder_7d493 6 = .ok (.aload_n 0, 1) := by decide +kernel
theorem dJ0_coder_7d493_7 : decode cJ0_coder_7d493 7 = .ok (.getfield 15, 3) := by decide +kernel
theorem dJ0_coder_7d493_10 : decode cJ0_coder_7d493 10 = .ok (.goto 4, 3) := by decide +kernel
theorem dJ0_coder_7d493_13 : decode cJ0_coder_7d493 13 = .ok (.iconst 1, 1) := by decide +kernel
theorem dJ0_coder_7d493_14 : decode cJ0_coder_7d493 14 = .ok (.ireturn, 1) := by decide +kernel
theorem dJ0_isLatin1_aae02_0 : decode cJ0_isLatin1_aae02 0 = .ok (.getstatic 38, 3) := by decide +kernel
theorem dJ0_isLatin1_aae02_3 : decode cJ0_isLatin1_aae02 3 = .ok (.ifCond .eq 14, 3) := by decide +kernel
theorem dJ0_isLatin1_aae02_6 : decode cJ0_isLatin1_aae02 6 = .ok (.aload_n 0, 1) := by decide +kernel
theorem dJ0_isLatin1_aae02_7 : decode cJ0_isLatin1_aae02 7 = .ok (.getfield 15, 3) := by decide +kernel
theorem dJ0_isLatin1_aae02_10 : decode cJ0_isLatin1_aae02 10 = .ok (.ifCond .ne 7, 3) := by decide +kernel
theorem dJ0_isLatin1_aae02_13 : decode cJ0_isLatin1_aae02 13 = .ok (.iconst 1, 1) := by decide +kernel
theorem dJ0_isLatin1_aae02_14 : decode cJ0_isLatin1_aae02 14 = .ok (.goto 4, 3) := by decide +kernel
theorem dJ0_isLatin1_aae02_17 : decode cJ0_isLatin1_aae02 17 = .ok (.iconst 0, 1) := by decide +kernel
theorem dJ0_isLatin1_aae02_18 : decode cJ0_isLatin1_aae02 18 = .ok (.ireturn, 1) := by decide +kernel
set_option maxRecDepth 20000 in
theorem ggJ0_checkIndex_df160_J3_checkIndex_8e157 : GoodIn wsJ0_checkIndex_df160 wsJ3_checkIndex_8e157 := goodIn_r _ [5] (by decide +kernel) (by decide +kernel)
set_option maxRecDepth 20000 in
theorem gJ0_checkIndex_df160_J3_checkIndex_8e157 : GoodIn wsJ0_checkIndex_df160 (va_wsS RJ0 1059 yJ3_checkIndex_8e157 wsJ3_checkIndex_8e157) := goodIn_app (goodIn_of _ (by decide +kernel)) ggJ0_checkIndex_df160_J3_checkIndex_8e157
theorem dJ0_checkIndex_df160_0 : decode cJ0_checkIndex_df160 0 = .ok (.iload_n 0, 1) := by decide +kernel
theorem dJ0_checkIndex_df160_1 : decode cJ0_checkIndex_df160 1 = .ok (.iload_n 1, 1) := by decide +kernel
theorem dJ0_checkIndex_df160_2 : decode cJ0_checkIndex_df160 2 = .ok (.getstatic 1053, 3) := by decide +kernel
theorem dJ0_checkIndex_df160_5 : decode cJ0_checkIndex_df160 5 = .ok (.invokestatic 1059, 3) := by decide +kernel
theorem dJ0_checkIndex_df160_8 : decode cJ0_checkIndex_df160 8 = .ok (.pop, 1) := by decide +kernel
theorem dJ0_checkIndex_df160_9 : decode cJ0_checkIndex_df160 9 = .ok (.return_, 1) := by decide +kernel
set_option maxRecDepth 20000 in
theorem ggJ1_charAt_3b067_J0_checkIndex_df160 : GoodIn wsJ1_charAt_3b067 wsJ0_checkIndex_df160 := goodIn_r _ [4, 5, 6, 7, 8, 9] (by decide +kernel) (by decide +kernel)
