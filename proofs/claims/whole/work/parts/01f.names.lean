theorem dX8_plug_45 : decode cX8_plug 45 = .ok (.iload_n 2, 1) := by decide +kernel
theorem dX8_plug_46 : decode cX8_plug 46 = .ok (.iastore, 1) := by decide +kernel
theorem dX8_plug_47 : decode cX8_plug 47 = .ok (.aload_n 0, 1) := by decide +kernel
theorem dX8_plug_48 : decode cX8_plug 48 = .ok (.invokevirtual 105, 3) := by decide +kernel
theorem dX8_plug_51 : decode cX8_plug 51 = .ok (.ireturn, 1) := by decide +kernel
set_option maxRecDepth 20000 in
theorem ggX8_mute_X8_isEnd : GoodIn wsX8_mute wsX8_isEnd := goodIn_r _ [6] (by decide +kernel) (by decide +kernel)
set_option maxRecDepth 20000 in
theorem gX8_mute_X8_isEnd : GoodIn wsX8_mute (va_wsS RX8 108 yX8_isEnd wsX8_isEnd) := goodIn_app (goodIn_of _ (by decide +kernel)) ggX8_mute_X8_isEnd
set_option maxRecDepth 20000 in
theorem ggX8_mute_X8_isLink : GoodIn wsX8_mute wsX8_isLink := goodIn_r _ [10, 2, 11, 12, 5, 13, 23, 24, 25, 26, 27, 28, 29, 30, 31, 32, 33, 34, 35, 36, 37, 38, 39, 40] (by decide +kernel) (by decide +kernel)
set_option maxRecDepth 20000 in
theorem gX8_mute_X8_isLink : GoodIn wsX8_mute (wsV RX8 99 RX8 yX8_isLink wsX8_isLink) := goodIn_app (goodIn_of _ (by decide +kernel)) ggX8_mute_X8_isLink
set_option maxRecDepth 20000 in
theorem ggX8_mute_X8_within : GoodIn wsX8_mute wsX8_within := goodIn_r _ [13] (by decide +kernel) (by decide +kernel)
set_option maxRecDepth 20000 in
theorem gX8_mute_X8_within : GoodIn wsX8_mute (va_wsS RX8 68 yX8_within wsX8_within) := goodIn_app (goodIn_of _ (by decide +kernel)) ggX8_mute_X8_within
set_option maxRecDepth 20000 in
theorem ggX8_mute_X8_place : GoodIn wsX8_mute wsX8_place := goodIn_r _ [16] (by decide +kernel) (by decide +kernel)
set_option maxRecDepth 20000 in
theorem gX8_mute_X8_place : GoodIn wsX8_mute (va_wsS RX8 92 yX8_place wsX8_place) := goodIn_app (goodIn_of _ (by decide +kernel)) ggX8_mute_X8_place
set_option maxRecDepth 20000 in
theorem ggX8_mute_X8_keeps : GoodIn wsX8_mute wsX8_keeps := goodIn_r _ [20, 21, 22, 1, 23, 24, 25, 26, 27, 28, 29, 30, 31, 32, 33, 34, 35, 36, 37, 38, 39, 40] (by decide +kernel) (by decide +kernel)
set_option maxRecDepth 20000 in
theorem gX8_mute_X8_keeps : GoodIn wsX8_mute (wsV RX8 102 RX8 yX8_keeps wsX8_keeps) := goodIn_app (goodIn_of _ (by decide +kernel)) ggX8_mute_X8_keeps
theorem dX8_mute_0 : decode cX8_mute 0 = .ok (.iload_n 1, 1) := by decide +kernel
theorem dX8_mute_1 : decode cX8_mute 1 = .ok (.invokestatic 108, 3) := by decide +kernel
theorem dX8_mute_4 : decode cX8_mute 4 = .ok (.ifCond .eq 20, 3) := by decide +kernel
theorem dX8_mute_7 : decode cX8_mute 7 = .ok (.aload_n 0, 1) := by decide +kernel
theorem dX8_mute_8 : decode cX8_mute 8 = .ok (.iload_n 2, 1) := by decide +kernel
theorem dX8_mute_9 : decode cX8_mute 9 = .ok (.invokevirtual 99, 3) := by decide +kernel
theorem dX8_mute_12 : decode cX8_mute 12 = .ok (.ifCond .eq 12, 3) := by decide +kernel
theorem dX8_mute_15 : decode cX8_mute 15 = .ok (.iload_n 3, 1) := by decide +kernel
theorem dX8_mute_16 : decode cX8_mute 16 = .ok (.iconst 0, 1) := by decide +kernel
theorem dX8_mute_17 : decode cX8_mute 17 = .ok (.iconst 1, 1) := by decide +kernel
theorem dX8_mute_18 : decode cX8_mute 18 = .ok (.invokestatic 68, 3) := by decide +kernel
theorem dX8_mute_21 : decode cX8_mute 21 = .ok (.ifCond .ne 5, 3) := by decide +kernel
theorem dX8_mute_24 : decode cX8_mute 24 = .ok (.iconst (-1), 1) := by decide +kernel
theorem dX8_mute_25 : decode cX8_mute 25 = .ok (.ireturn, 1) := by decide +kernel
theorem dX8_mute_26 : decode cX8_mute 26 = .ok (.aload_n 0, 1) := by decide +kernel
theorem dX8_mute_27 : decode cX8_mute 27 = .ok (.getfield 7, 3) := by decide +kernel
theorem dX8_mute_30 : decode cX8_mute 30 = .ok (.iload_n 1, 1) := by decide +kernel
theorem dX8_mute_31 : decode cX8_mute 31 = .ok (.iload_n 2, 1) := by decide +kernel
theorem dX8_mute_32 : decode cX8_mute 32 = .ok (.invokestatic 92, 3) := by decide +kernel
theorem dX8_mute_35 : decode cX8_mute 35 = .ok (.iconst 2, 1) := by decide +kernel
theorem dX8_mute_36 : decode cX8_mute 36 = .ok (.iadd, 1) := by decide +kernel
theorem dX8_mute_37 : decode cX8_mute 37 = .ok (.iaload, 1) := by decide +kernel
theorem dX8_mute_38 : decode cX8_mute 38 = .ok (.iload_n 3, 1) := by decide +kernel
theorem dX8_mute_39 : decode cX8_mute 39 = .ok (.if_icmp .ne 6, 3) := by decide +kernel
theorem dX8_mute_42 : decode cX8_mute 42 = .ok (.bipush (-2), 2) := by decide +kernel
theorem dX8_mute_44 : decode cX8_mute 44 = .ok (.ireturn, 1) := by decide +kernel
theorem dX8_mute_45 : decode cX8_mute 45 = .ok (.aload_n 0, 1) := by decide +kernel
theorem dX8_mute_46 : decode cX8_mute 46 = .ok (.invokevirtual 102, 3) := by decide +kernel
theorem dX8_mute_49 : decode cX8_mute 49 = .ok (.aload_n 0, 1) := by decide +kernel
theorem dX8_mute_50 : decode cX8_mute 50 = .ok (.getfield 7, 3) := by decide +kernel
theorem dX8_mute_53 : decode cX8_mute 53 = .ok (.iload_n 1, 1) := by decide +kernel
theorem dX8_mute_54 : decode cX8_mute 54 = .ok (.iload_n 2, 1) := by decide +kernel
theorem dX8_mute_55 : decode cX8_mute 55 = .ok (.invokestatic 92, 3) := by decide +kernel
theorem dX8_mute_58 : decode cX8_mute 58 = .ok (.iconst 2, 1) := by decide +kernel
theorem dX8_mute_59 : decode cX8_mute 59 = .ok (.iadd, 1) := by decide +kernel
theorem dX8_mute_60 : decode cX8_mute 60 = .ok (.iload_n 3, 1) := by decide +kernel
theorem dX8_mute_61 : decode cX8_mute 61 = .ok (.iastore, 1) := by decide +kernel
theorem dX8_mute_62 : decode cX8_mute 62 = .ok (.iconst 0, 1) := by decide +kernel
theorem dX8_mute_63 : decode cX8_mute 63 = .ok (.istore 4, 2) := by decide +kernel
theorem dX8_mute_65 : decode cX8_mute 65 = .ok (.iconst 0, 1) := by decide +kernel
theorem dX8_mute_66 : decode cX8_mute 66 = .ok (.istore 5, 2) := by decide +kernel
theorem dX8_mute_68 : decode cX8_mute 68 = .ok (.iload 5, 2) := by decide +kernel
theorem dX8_mute_70 : decode cX8_mute 70 = .ok (.aload_n 0, 1) := by decide +kernel
theorem dX8_mute_71 : decode cX8_mute 71 = .ok (.getfield 83, 3) := by decide +kernel
theorem dX8_mute_74 : decode cX8_mute 74 = .ok (.if_icmp .ge 27, 3) := by decide +kernel
theorem dX8_mute_77 : decode cX8_mute 77 = .ok (.iload 4, 2) := by decide +kernel
theorem dX8_mute_79 : decode cX8_mute 79 = .ok (.aload_n 0, 1) := by decide +kernel
theorem dX8_mute_80 : decode cX8_mute 80 = .ok (.getfield 7, 3) := by decide +kernel
theorem dX8_mute_83 : decode cX8_mute 83 = .ok (.iload_n 1, 1) := by decide +kernel
theorem dX8_mute_84 : decode cX8_mute 84 = .ok (.iload 5, 2) := by decide +kernel
theorem dX8_mute_86 : decode cX8_mute 86 = .ok (.invokestatic 92, 3) := by decide +kernel
theorem dX8_mute_89 : decode cX8_mute 89 = .ok (.iconst 2, 1) := by decide +kernel
theorem dX8_mute_90 : decode cX8_mute 90 = .ok (.iadd, 1) := by decide +kernel
theorem dX8_mute_91 : decode cX8_mute 91 = .ok (.iaload, 1) := by decide +kernel
theorem dX8_mute_92 : decode cX8_mute 92 = .ok (.iadd, 1) := by decide +kernel
theorem dX8_mute_93 : decode cX8_mute 93 = .ok (.istore 4, 2) := by decide +kernel
theorem dX8_mute_95 : decode cX8_mute 95 = .ok (.iinc 5 1, 3) := by decide +kernel
theorem dX8_mute_98 : decode cX8_mute 98 = .ok (.goto (-30), 3) := by decide +kernel
theorem dX8_mute_101 : decode cX8_mute 101 = .ok (.iload 4, 2) := by decide +kernel
theorem dX8_mute_103 : decode cX8_mute 103 = .ok (.ireturn, 1) := by decide +kernel
set_option maxRecDepth 20000 in
theorem ggX8_becomes_X8_keeps : GoodIn wsX8_becomes wsX8_keeps := goodIn_r _ [6, 7, 8, 1, 9, 10, 11, 12, 13, 14, 15, 16, 17, 18, 19, 20, 21, 22, 23, 24, 25, 26] (by decide +kernel) (by decide +kernel)
set_option maxRecDepth 20000 in
theorem gX8_becomes_X8_keeps : GoodIn wsX8_becomes (wsV RX8 102 RX8 yX8_keeps wsX8_keeps) := goodIn_app (goodIn_of _ (by decide +kernel)) ggX8_becomes_X8_keeps
theorem dX8_becomes_0 : decode cX8_becomes 0 = .ok (.aload_n 0, 1) := by decide +kernel
theorem dX8_becomes_1 : decode cX8_becomes 1 = .ok (.getfield 7, 3) := by decide +kernel
theorem dX8_becomes_4 : decode cX8_becomes 4 = .ok (.iload_n 1, 1) := by decide +kernel
theorem dX8_becomes_5 : decode cX8_becomes 5 = .ok (.iaload, 1) := by decide +kernel
theorem dX8_becomes_6 : decode cX8_becomes 6 = .ok (.istore_n 3, 1) := by decide +kernel
theorem dX8_becomes_7 : decode cX8_becomes 7 = .ok (.iload_n 3, 1) := by decide +kernel
theorem dX8_becomes_8 : decode cX8_becomes 8 = .ok (.iload_n 2, 1) := by decide +kernel
theorem dX8_becomes_9 : decode cX8_becomes 9 = .ok (.if_icmp .ne 6, 3) := by decide +kernel
theorem dX8_becomes_12 : decode cX8_becomes 12 = .ok (.bipush (-2), 2) := by decide +kernel
theorem dX8_becomes_14 : decode cX8_becomes 14 = .ok (.ireturn, 1) := by decide +kernel
theorem dX8_becomes_15 : decode cX8_becomes 15 = .ok (.aload_n 0, 1) := by decide +kernel
theorem dX8_becomes_16 : decode cX8_becomes 16 = .ok (.invokevirtual 102, 3) := by decide +kernel
theorem dX8_becomes_19 : decode cX8_becomes 19 = .ok (.aload_n 0, 1) := by decide +kernel
theorem dX8_becomes_20 : decode cX8_becomes 20 = .ok (.getfield 7, 3) := by decide +kernel
theorem dX8_becomes_23 : decode cX8_becomes 23 = .ok (.iload_n 1, 1) := by decide +kernel
theorem dX8_becomes_24 : decode cX8_becomes 24 = .ok (.iload_n 2, 1) := by decide +kernel
theorem dX8_becomes_25 : decode cX8_becomes 25 = .ok (.iastore, 1) := by decide +kernel
theorem dX8_becomes_26 : decode cX8_becomes 26 = .ok (.iload_n 3, 1) := by decide +kernel
theorem dX8_becomes_27 : decode cX8_becomes 27 = .ok (.ireturn, 1) := by decide +kernel
set_option maxRecDepth 20000 in
theorem ggX8_tell_X8_isEnd : GoodIn wsX8_tell wsX8_isEnd := goodIn_r _ [4] (by decide +kernel) (by decide +kernel)
set_option maxRecDepth 20000 in
theorem gX8_tell_X8_isEnd : GoodIn wsX8_tell (va_wsS RX8 108 yX8_isEnd wsX8_isEnd) := goodIn_app (goodIn_of _ (by decide +kernel)) ggX8_tell_X8_isEnd
set_option maxRecDepth 20000 in
theorem ggX8_tell_X8_isLink : GoodIn wsX8_tell wsX8_isLink := goodIn_r _ [8, 9, 10, 11, 3, 12, 27, 28, 29, 30, 31, 32, 33, 34, 35, 36, 37, 38, 39, 40, 41, 42, 43, 44] (by decide +kernel) (by decide +kernel)
set_option maxRecDepth 20000 in
theorem gX8_tell_X8_isLink : GoodIn wsX8_tell (wsV RX8 99 RX8 yX8_isLink wsX8_isLink) := goodIn_app (goodIn_of _ (by decide +kernel)) ggX8_tell_X8_isLink
set_option maxRecDepth 20000 in
theorem ggX8_tell_X8_within : GoodIn wsX8_tell wsX8_within := goodIn_r _ [12] (by decide +kernel) (by decide +kernel)
set_option maxRecDepth 20000 in
theorem gX8_tell_X8_within : GoodIn wsX8_tell (va_wsS RX8 68 yX8_within wsX8_within) := goodIn_app (goodIn_of _ (by decide +kernel)) ggX8_tell_X8_within
set_option maxRecDepth 20000 in
theorem ggX8_tell_X8_place : GoodIn wsX8_tell wsX8_place := goodIn_r _ [15] (by decide +kernel) (by decide +kernel)
set_option maxRecDepth 20000 in
theorem gX8_tell_X8_place : GoodIn wsX8_tell (va_wsS RX8 92 yX8_place wsX8_place) := goodIn_app (goodIn_of _ (by decide +kernel)) ggX8_tell_X8_place
set_option maxRecDepth 20000 in
theorem ggX8_tell_X8_becomes : GoodIn wsX8_tell wsX8_becomes := goodIn_r _ [19, 20, 21, 22, 23, 3, 24, 25, 26, 27, 28, 29, 30, 31, 32, 33, 34, 35, 36, 37, 38, 39, 40, 41, 42, 43, 44] (by decide +kernel) (by decide +kernel)
set_option maxRecDepth 20000 in
theorem gX8_tell_X8_becomes : GoodIn wsX8_tell (wsV RX8 111 RX8 yX8_becomes wsX8_becomes) := goodIn_app (goodIn_of _ (by decide +kernel)) ggX8_tell_X8_becomes
theorem dX8_tell_0 : decode cX8_tell 0 = .ok (.iload_n 1, 1) := by decide +kernel
theorem dX8_tell_1 : decode cX8_tell 1 = .ok (.invokestatic 108, 3) := by decide +kernel
theorem dX8_tell_4 : decode cX8_tell 4 = .ok (.ifCond .eq 31, 3) := by decide +kernel
theorem dX8_tell_7 : decode cX8_tell 7 = .ok (.aload_n 0, 1) := by decide +kernel
theorem dX8_tell_8 : decode cX8_tell 8 = .ok (.iload_n 2, 1) := by decide +kernel
theorem dX8_tell_9 : decode cX8_tell 9 = .ok (.invokevirtual 99, 3) := by decide +kernel
theorem dX8_tell_12 : decode cX8_tell 12 = .ok (.ifCond .eq 23, 3) := by decide +kernel
theorem dX8_tell_15 : decode cX8_tell 15 = .ok (.iload_n 3, 1) := by decide +kernel
theorem dX8_tell_16 : decode cX8_tell 16 = .ok (.iconst 0, 1) := by decide +kernel
theorem dX8_tell_17 : decode cX8_tell 17 = .ok (.iconst 1, 1) := by decide +kernel
theorem dX8_tell_18 : decode cX8_tell 18 = .ok (.invokestatic 68, 3) := by decide +kernel
theorem dX8_tell_21 : decode cX8_tell 21 = .ok (.ifCond .eq 14, 3) := by decide +kernel
theorem dX8_tell_24 : decode cX8_tell 24 = .ok (.iload 4, 2) := by decide +kernel
theorem dX8_tell_26 : decode cX8_tell 26 = .ok (.iconst 0, 1) := by decide +kernel
theorem dX8_tell_27 : decode cX8_tell 27 = .ok (.bipush 9, 2) := by decide +kernel
theorem dX8_tell_29 : decode cX8_tell 29 = .ok (.invokestatic 68, 3) := by decide +kernel
theorem dX8_tell_32 : decode cX8_tell 32 = .ok (.ifCond .ne 5, 3) := by decide +kernel
theorem dX8_tell_35 : decode cX8_tell 35 = .ok (.iconst (-1), 1) := by decide +kernel
theorem dX8_tell_36 : decode cX8_tell 36 = .ok (.ireturn, 1) := by decide +kernel
theorem dX8_tell_37 : decode cX8_tell 37 = .ok (.aload_n 0, 1) := by decide +kernel
theorem dX8_tell_38 : decode cX8_tell 38 = .ok (.iload_n 1, 1) := by decide +kernel
theorem dX8_tell_39 : decode cX8_tell 39 = .ok (.iload_n 2, 1) := by decide +kernel
theorem dX8_tell_40 : decode cX8_tell 40 = .ok (.invokestatic 92, 3) := by decide +kernel
theorem dX8_tell_43 : decode cX8_tell 43 = .ok (.iload_n 3, 1) := by decide +kernel
theorem dX8_tell_44 : decode cX8_tell 44 = .ok (.iadd, 1) := by decide +kernel
theorem dX8_tell_45 : decode cX8_tell 45 = .ok (.iload 4, 2) := by decide +kernel
theorem dX8_tell_47 : decode cX8_tell 47 = .ok (.invokevirtual 111, 3) := by decide +kernel
theorem dX8_tell_50 : decode cX8_tell 50 = .ok (.ireturn, 1) := by decide +kernel
set_option maxRecDepth 20000 in
theorem ggX8_set_X8_within : GoodIn wsX8_set wsX8_within := goodIn_r _ [4] (by decide +kernel) (by decide +kernel)
set_option maxRecDepth 20000 in
theorem gX8_set_X8_within : GoodIn wsX8_set (va_wsS RX8 68 yX8_within wsX8_within) := goodIn_app (goodIn_of _ (by decide +kernel)) ggX8_set_X8_within
set_option maxRecDepth 20000 in
theorem ggX8_set_X8_becomes : GoodIn wsX8_set wsX8_becomes := goodIn_r _ [8, 9, 10, 11, 12, 3, 13, 14, 15, 16, 17, 18, 19, 20, 21, 22, 23, 24, 25, 26, 27, 28, 29, 30, 31, 32, 33] (by decide +kernel) (by decide +kernel)
set_option maxRecDepth 20000 in
theorem gX8_set_X8_becomes : GoodIn wsX8_set (wsV RX8 111 RX8 yX8_becomes wsX8_becomes) := goodIn_app (goodIn_of _ (by decide +kernel)) ggX8_set_X8_becomes
theorem dX8_set_0 : decode cX8_set 0 = .ok (.iload_n 1, 1) := by decide +kernel
theorem dX8_set_1 : decode cX8_set 1 = .ok (.iconst 0, 1) := by decide +kernel
theorem dX8_set_2 : decode cX8_set 2 = .ok (.iconst 2, 1) := by decide +kernel
theorem dX8_set_3 : decode cX8_set 3 = .ok (.invokestatic 68, 3) := by decide +kernel
theorem dX8_set_6 : decode cX8_set 6 = .ok (.ifCond .eq 32, 3) := by decide +kernel
theorem dX8_set_9 : decode cX8_set 9 = .ok (.iload_n 2, 1) := by decide +kernel
theorem dX8_set_10 : decode cX8_set 10 = .ok (.iload_n 1, 1) := by decide +kernel
theorem dX8_set_11 : decode cX8_set 11 = .ok (.iconst 2, 1) := by decide +kernel
theorem dX8_set_12 : decode cX8_set 12 = .ok (.if_icmp .ne 7, 3) := by decide +kernel
theorem dX8_set_15 : decode cX8_set 15 = .ok (.iconst 1, 1) := by decide +kernel
theorem dX8_set_16 : decode cX8_set 16 = .ok (.goto 4, 3) := by decide +kernel
theorem dX8_set_19 : decode cX8_set 19 = .ok (.iconst 0, 1) := by decide +kernel
theorem dX8_set_20 : decode cX8_set 20 = .ok (.iload_n 1, 1) := by decide +kernel
theorem dX8_set_21 : decode cX8_set 21 = .ok (.iconst 2, 1) := by decide +kernel
theorem dX8_set_22 : decode cX8_set 22 = .ok (.if_icmp .ne 8, 3) := by decide +kernel
theorem dX8_set_25 : decode cX8_set 25 = .ok (.bipush 6, 2) := by decide +kernel
theorem dX8_set_27 : decode cX8_set 27 = .ok (.goto 5, 3) := by decide +kernel
theorem dX8_set_30 : decode cX8_set 30 = .ok (.bipush 9, 2) := by decide +kernel
theorem dX8_set_32 : decode cX8_set 32 = .ok (.invokestatic 68, 3) := by decide +kernel
theorem dX8_set_35 : decode cX8_set 35 = .ok (.ifCond .ne 5, 3) := by decide +kernel
theorem dX8_set_38 : decode cX8_set 38 = .ok (.iconst (-1), 1) := by decide +kernel
theorem dX8_set_39 : decode cX8_set 39 = .ok (.ireturn, 1) := by decide +kernel
theorem dX8_set_40 : decode cX8_set 40 = .ok (.aload_n 0, 1) := by decide +kernel
theorem dX8_set_41 : decode cX8_set 41 = .ok (.iload_n 1, 1) := by decide +kernel
theorem dX8_set_42 : decode cX8_set 42 = .ok (.iload_n 2, 1) := by decide +kernel
theorem dX8_set_43 : decode cX8_set 43 = .ok (.invokevirtual 111, 3) := by decide +kernel
theorem dX8_set_46 : decode cX8_set 46 = .ok (.ireturn, 1) := by decide +kernel
theorem dX8_undo_0 : decode cX8_undo 0 = .ok (.aload_n 0, 1) := by decide +kernel
theorem dX8_undo_1 : decode cX8_undo 1 = .ok (.getfield 96, 3) := by decide +kernel
theorem dX8_undo_4 : decode cX8_undo 4 = .ok (.ifCond .ne 6, 3) := by decide +kernel
theorem dX8_undo_7 : decode cX8_undo 7 = .ok (.bipush (-2), 2) := by decide +kernel
theorem dX8_undo_9 : decode cX8_undo 9 = .ok (.ireturn, 1) := by decide +kernel
theorem dX8_undo_10 : decode cX8_undo 10 = .ok (.aload_n 0, 1) := by decide +kernel
theorem dX8_undo_11 : decode cX8_undo 11 = .ok (.dup, 1) := by decide +kernel
theorem dX8_undo_12 : decode cX8_undo 12 = .ok (.getfield 96, 3) := by decide +kernel
theorem dX8_undo_15 : decode cX8_undo 15 = .ok (.iconst 1, 1) := by decide +kernel
theorem dX8_undo_16 : decode cX8_undo 16 = .ok (.isub, 1) := by decide +kernel
theorem dX8_undo_17 : decode cX8_undo 17 = .ok (.putfield 96, 3) := by decide +kernel
theorem dX8_undo_20 : decode cX8_undo 20 = .ok (.iconst 0, 1) := by decide +kernel
theorem dX8_undo_21 : decode cX8_undo 21 = .ok (.istore_n 1, 1) := by decide +kernel
theorem dX8_undo_22 : decode cX8_undo 22 = .ok (.iload_n 1, 1) := by decide +kernel
theorem dX8_undo_23 : decode cX8_undo 23 = .ok (.sipush 235, 3) := by decide +kernel
theorem dX8_undo_26 : decode cX8_undo 26 = .ok (.if_icmp .ge 30, 3) := by decide +kernel
theorem dX8_undo_29 : decode cX8_undo 29 = .ok (.aload_n 0, 1) := by decide +kernel
theorem dX8_undo_30 : decode cX8_undo 30 = .ok (.getfield 7, 3) := by decide +kernel
theorem dX8_undo_33 : decode cX8_undo 33 = .ok (.iload_n 1, 1) := by decide +kernel
theorem dX8_undo_34 : decode cX8_undo 34 = .ok (.aload_n 0, 1) := by decide +kernel
theorem dX8_undo_35 : decode cX8_undo 35 = .ok (.getfield 16, 3) := by decide +kernel
theorem dX8_undo_38 : decode cX8_undo 38 = .ok (.sipush 235, 3) := by decide +kernel
theorem dX8_undo_41 : decode cX8_undo 41 = .ok (.aload_n 0, 1) := by decide +kernel
theorem dX8_undo_42 : decode cX8_undo 42 = .ok (.getfield 96, 3) := by decide +kernel
theorem dX8_undo_45 : decode cX8_undo 45 = .ok (.imul, 1) := by decide +kernel
theorem dX8_undo_46 : decode cX8_undo 46 = .ok (.iload_n 1, 1) := by decide +kernel
theorem dX8_undo_47 : decode cX8_undo 47 = .ok (.iadd, 1) := by decide +kernel
theorem dX8_undo_48 : decode cX8_undo 48 = .ok (.iaload, 1) := by decide +kernel
theorem dX8_undo_49 : decode cX8_undo 49 = .ok (.iastore, 1) := by decide +kernel
theorem dX8_undo_50 : decode cX8_undo 50 = .ok (.iinc 1 1, 3) := by decide +kernel
theorem dX8_undo_53 : decode cX8_undo 53 = .ok (.goto (-31), 3) := by decide +kernel
theorem dX8_undo_56 : decode cX8_undo 56 = .ok (.aload_n 0, 1) := by decide +kernel
theorem dX8_undo_57 : decode cX8_undo 57 = .ok (.getfield 96, 3) := by decide +kernel
theorem dX8_undo_60 : decode cX8_undo 60 = .ok (.ireturn, 1) := by decide +kernel
theorem dX8_knowsNothing_0 : decode cX8_knowsNothing 0 = .ok (.aload_n 0, 1) := by decide +kernel
theorem dX8_knowsNothing_1 : decode cX8_knowsNothing 1 = .ok (.getfield 7, 3) := by decide +kernel
theorem dX8_knowsNothing_4 : decode cX8_knowsNothing 4 = .ok (.iload_n 1, 1) := by decide +kernel
theorem dX8_knowsNothing_5 : decode cX8_knowsNothing 5 = .ok (.bipush 8, 2) := by decide +kernel
theorem dX8_knowsNothing_7 : decode cX8_knowsNothing 7 = .ok (.iadd, 1) := by decide +kernel
theorem dX8_knowsNothing_8 : decode cX8_knowsNothing 8 = .ok (.bipush (-4), 2) := by decide +kernel
theorem dX8_knowsNothing_10 : decode cX8_knowsNothing 10 = .ok (.iastore, 1) := by decide +kernel
theorem dX8_knowsNothing_11 : decode cX8_knowsNothing 11 = .ok (.return_, 1) := by decide +kernel
set_option maxRecDepth 20000 in
theorem ggX8_comes_X8_place : GoodIn wsX8_comes wsX8_place := goodIn_r _ [5] (by decide +kernel) (by decide +kernel)
set_option maxRecDepth 20000 in
theorem gX8_comes_X8_place : GoodIn wsX8_comes (va_wsS RX8 92 yX8_place wsX8_place) := goodIn_app (goodIn_of _ (by decide +kernel)) ggX8_comes_X8_place
set_option maxRecDepth 20000 in
theorem ggX8_comes_X8_knowsNothing : GoodIn wsX8_comes wsX8_knowsNothing := goodIn_r _ [9, 1, 10, 11, 12, 13, 14, 15, 16, 17, 18, 19, 20, 21, 22, 23, 24, 25, 26, 27] (by decide +kernel) (by decide +kernel)
set_option maxRecDepth 20000 in
theorem gX8_comes_X8_knowsNothing : GoodIn wsX8_comes (wsV RX8 114 RX8 yX8_knowsNothing wsX8_knowsNothing) := goodIn_app (goodIn_of _ (by decide +kernel)) ggX8_comes_X8_knowsNothing
theorem dX8_comes_0 : decode cX8_comes 0 = .ok (.iload_n 1, 1) := by decide +kernel
theorem dX8_comes_1 : decode cX8_comes 1 = .ok (.iload_n 2, 1) := by decide +kernel
theorem dX8_comes_2 : decode cX8_comes 2 = .ok (.invokestatic 92, 3) := by decide +kernel
theorem dX8_comes_5 : decode cX8_comes 5 = .ok (.istore_n 3, 1) := by decide +kernel
theorem dX8_comes_6 : decode cX8_comes 6 = .ok (.iconst 1, 1) := by decide +kernel
theorem dX8_comes_7 : decode cX8_comes 7 = .ok (.iload_n 1, 1) := by decide +kernel
theorem dX8_comes_8 : decode cX8_comes 8 = .ok (.isub, 1) := by decide +kernel
theorem dX8_comes_9 : decode cX8_comes 9 = .ok (.iload_n 2, 1) := by decide +kernel
theorem dX8_comes_10 : decode cX8_comes 10 = .ok (.invokestatic 92, 3) := by decide +kernel
theorem dX8_comes_13 : decode cX8_comes 13 = .ok (.istore 4, 2) := by decide +kernel
theorem dX8_comes_15 : decode cX8_comes 15 = .ok (.aload_n 0, 1) := by decide +kernel
theorem dX8_comes_16 : decode cX8_comes 16 = .ok (.getfield 7, 3) := by decide +kernel
theorem dX8_comes_19 : decode cX8_comes 19 = .ok (.iconst 4, 1) := by decide +kernel
theorem dX8_comes_20 : decode cX8_comes 20 = .ok (.iload_n 2, 1) := by decide +kernel
theorem dX8_comes_21 : decode cX8_comes 21 = .ok (.iadd, 1) := by decide +kernel
theorem dX8_comes_22 : decode cX8_comes 22 = .ok (.iaload, 1) := by decide +kernel
theorem dX8_comes_23 : decode cX8_comes 23 = .ok (.ifCond .ne 11, 3) := by decide +kernel
theorem dX8_comes_26 : decode cX8_comes 26 = .ok (.aload_n 0, 1) := by decide +kernel
theorem dX8_comes_27 : decode cX8_comes 27 = .ok (.iload_n 3, 1) := by decide +kernel
theorem dX8_comes_28 : decode cX8_comes 28 = .ok (.invokevirtual 114, 3) := by decide +kernel
theorem dX8_comes_31 : decode cX8_comes 31 = .ok (.goto 113, 3) := by decide +kernel
theorem dX8_comes_34 : decode cX8_comes 34 = .ok (.aload_n 0, 1) := by decide +kernel
theorem dX8_comes_35 : decode cX8_comes 35 = .ok (.getfield 7, 3) := by decide +kernel
theorem dX8_comes_38 : decode cX8_comes 38 = .ok (.iload 4, 2) := by decide +kernel
theorem dX8_comes_40 : decode cX8_comes 40 = .ok (.iconst 3, 1) := by decide +kernel
theorem dX8_comes_41 : decode cX8_comes 41 = .ok (.iadd, 1) := by decide +kernel
theorem dX8_comes_42 : decode cX8_comes 42 = .ok (.iaload, 1) := by decide +kernel
theorem dX8_comes_43 : decode cX8_comes 43 = .ok (.iconst 1, 1) := by decide +kernel
theorem dX8_comes_44 : decode cX8_comes 44 = .ok (.if_icmp .ne 55, 3) := by decide +kernel
theorem dX8_comes_47 : decode cX8_comes 47 = .ok (.iconst 0, 1) := by decide +kernel
theorem dX8_comes_48 : decode cX8_comes 48 = .ok (.istore 5, 2) := by decide +kernel
theorem dX8_comes_50 : decode cX8_comes 50 = .ok (.iload 5, 2) := by decide +kernel
theorem dX8_comes_52 : decode cX8_comes 52 = .ok (.iconst 4, 1) := by decide +kernel
theorem dX8_comes_53 : decode cX8_comes 53 = .ok (.if_icmp .ge 33, 3) := by decide +kernel
theorem dX8_comes_56 : decode cX8_comes 56 = .ok (.aload_n 0, 1) := by decide +kernel
theorem dX8_comes_57 : decode cX8_comes 57 = .ok (.getfield 7, 3) := by decide +kernel
theorem dX8_comes_60 : decode cX8_comes 60 = .ok (.iload_n 3, 1) := by decide +kernel
theorem dX8_comes_61 : decode cX8_comes 61 = .ok (.bipush 9, 2) := by decide +kernel
theorem dX8_comes_63 : decode cX8_comes 63 = .ok (.iadd, 1) := by decide +kernel
theorem dX8_comes_64 : decode cX8_comes 64 = .ok (.iload 5, 2) := by decide +kernel
theorem dX8_comes_66 : decode cX8_comes 66 = .ok (.iadd, 1) := by decide +kernel
theorem dX8_comes_67 : decode cX8_comes 67 = .ok (.aload_n 0, 1) := by decide +kernel
theorem dX8_comes_68 : decode cX8_comes 68 = .ok (.getfield 7, 3) := by decide +kernel
theorem dX8_comes_71 : decode cX8_comes 71 = .ok (.iload 4, 2) := by decide +kernel
theorem dX8_comes_73 : decode cX8_comes 73 = .ok (.iconst 4, 1) := by decide +kernel
theorem dX8_comes_74 : decode cX8_comes 74 = .ok (.iadd, 1) := by decide +kernel
theorem dX8_comes_75 : decode cX8_comes 75 = .ok (.iload 5, 2) := by decide +kernel
theorem dX8_comes_77 : decode cX8_comes 77 = .ok (.iadd, 1) := by decide +kernel
theorem dX8_comes_78 : decode cX8_comes 78 = .ok (.iaload, 1) := by decide +kernel
theorem dX8_comes_79 : decode cX8_comes 79 = .ok (.iastore, 1) := by decide +kernel
theorem dX8_comes_80 : decode cX8_comes 80 = .ok (.iinc 5 1, 3) := by decide +kernel
theorem dX8_comes_83 : decode cX8_comes 83 = .ok (.goto (-33), 3) := by decide +kernel
theorem dX8_comes_86 : decode cX8_comes 86 = .ok (.aload_n 0, 1) := by decide +kernel
theorem dX8_comes_87 : decode cX8_comes 87 = .ok (.getfield 7, 3) := by decide +kernel
theorem dX8_comes_90 : decode cX8_comes 90 = .ok (.iload_n 3, 1) := by decide +kernel
theorem dX8_comes_91 : decode cX8_comes 91 = .ok (.bipush 8, 2) := by decide +kernel
theorem dX8_comes_93 : decode cX8_comes 93 = .ok (.iadd, 1) := by decide +kernel
theorem dX8_comes_94 : decode cX8_comes 94 = .ok (.iconst 0, 1) := by decide +kernel
theorem dX8_comes_95 : decode cX8_comes 95 = .ok (.iastore, 1) := by decide +kernel
theorem dX8_comes_96 : decode cX8_comes 96 = .ok (.goto 48, 3) := by decide +kernel
theorem dX8_comes_99 : decode cX8_comes 99 = .ok (.aload_n 0, 1) := by decide +kernel
theorem dX8_comes_100 : decode cX8_comes 100 = .ok (.getfield 7, 3) := by decide +kernel
theorem dX8_comes_103 : decode cX8_comes 103 = .ok (.iload_n 3, 1) := by decide +kernel
theorem dX8_comes_104 : decode cX8_comes 104 = .ok (.bipush 8, 2) := by decide +kernel
theorem dX8_comes_106 : decode cX8_comes 106 = .ok (.iadd, 1) := by decide +kernel
theorem dX8_comes_107 : decode cX8_comes 107 = .ok (.iaload, 1) := by decide +kernel
theorem dX8_comes_108 : decode cX8_comes 108 = .ok (.bipush (-4), 2) := by decide +kernel
theorem dX8_comes_110 : decode cX8_comes 110 = .ok (.if_icmp .eq 34, 3) := by decide +kernel
theorem dX8_comes_113 : decode cX8_comes 113 = .ok (.aload_n 0, 1) := by decide +kernel
theorem dX8_comes_114 : decode cX8_comes 114 = .ok (.getfield 7, 3) := by decide +kernel
theorem dX8_comes_117 : decode cX8_comes 117 = .ok (.iload_n 3, 1) := by decide +kernel
theorem dX8_comes_118 : decode cX8_comes 118 = .ok (.bipush 8, 2) := by decide +kernel
theorem dX8_comes_120 : decode cX8_comes 120 = .ok (.iadd, 1) := by decide +kernel
theorem dX8_comes_121 : decode cX8_comes 121 = .ok (.dup2, 1) := by decide +kernel
theorem dX8_comes_122 : decode cX8_comes 122 = .ok (.iaload, 1) := by decide +kernel
theorem dX8_comes_123 : decode cX8_comes 123 = .ok (.iconst 1, 1) := by decide +kernel
theorem dX8_comes_124 : decode cX8_comes 124 = .ok (.iadd, 1) := by decide +kernel
theorem dX8_comes_125 : decode cX8_comes 125 = .ok (.iastore, 1) := by decide +kernel
theorem dX8_comes_126 : decode cX8_comes 126 = .ok (.aload_n 0, 1) := by decide +kernel
theorem dX8_comes_127 : decode cX8_comes 127 = .ok (.getfield 7, 3) := by decide +kernel
theorem dX8_comes_130 : decode cX8_comes 130 = .ok (.iload_n 3, 1) := by decide +kernel
theorem dX8_comes_131 : decode cX8_comes 131 = .ok (.bipush 8, 2) := by decide +kernel
theorem dX8_comes_133 : decode cX8_comes 133 = .ok (.iadd, 1) := by decide +kernel
theorem dX8_comes_134 : decode cX8_comes 134 = .ok (.iaload, 1) := by decide +kernel
theorem dX8_comes_135 : decode cX8_comes 135 = .ok (.iconst 3, 1) := by decide +kernel
theorem dX8_comes_136 : decode cX8_comes 136 = .ok (.if_icmp .ne 8, 3) := by decide +kernel
theorem dX8_comes_139 : decode cX8_comes 139 = .ok (.aload_n 0, 1) := by decide +kernel
theorem dX8_comes_140 : decode cX8_comes 140 = .ok (.iload_n 3, 1) := by decide +kernel
theorem dX8_comes_141 : decode cX8_comes 141 = .ok (.invokevirtual 114, 3) := by decide +kernel
theorem dX8_comes_144 : decode cX8_comes 144 = .ok (.return_, 1) := by decide +kernel
set_option maxRecDepth 20000 in
theorem ggX8_isOpen_X8_place : GoodIn wsX8_isOpen wsX8_place := goodIn_r _ [5] (by decide +kernel) (by decide +kernel)
set_option maxRecDepth 20000 in
theorem gX8_isOpen_X8_place : GoodIn wsX8_isOpen (va_wsS RX8 92 yX8_place wsX8_place) := goodIn_app (goodIn_of _ (by decide +kernel)) ggX8_isOpen_X8_place
theorem dX8_isOpen_0 : decode cX8_isOpen 0 = .ok (.aload_n 0, 1) := by decide +kernel
theorem dX8_isOpen_1 : decode cX8_isOpen 1 = .ok (.getfield 7, 3) := by decide +kernel
theorem dX8_isOpen_4 : decode cX8_isOpen 4 = .ok (.iload_n 1, 1) := by decide +kernel
theorem dX8_isOpen_5 : decode cX8_isOpen 5 = .ok (.iload_n 2, 1) := by decide +kernel
theorem dX8_isOpen_6 : decode cX8_isOpen 6 = .ok (.invokestatic 92, 3) := by decide +kernel
theorem dX8_isOpen_9 : decode cX8_isOpen 9 = .ok (.bipush 8, 2) := by decide +kernel
theorem dX8_isOpen_11 : decode cX8_isOpen 11 = .ok (.iadd, 1) := by decide +kernel
theorem dX8_isOpen_12 : decode cX8_isOpen 12 = .ok (.iaload, 1) := by decide +kernel
theorem dX8_isOpen_13 : decode cX8_isOpen 13 = .ok (.bipush (-4), 2) := by decide +kernel
theorem dX8_isOpen_15 : decode cX8_isOpen 15 = .ok (.if_icmp .eq 7, 3) := by decide +kernel
theorem dX8_isOpen_18 : decode cX8_isOpen 18 = .ok (.iconst 1, 1) := by decide +kernel
theorem dX8_isOpen_19 : decode cX8_isOpen 19 = .ok (.goto 4, 3) := by decide +kernel
theorem dX8_isOpen_22 : decode cX8_isOpen 22 = .ok (.iconst 0, 1) := by decide +kernel
theorem dX8_isOpen_23 : decode cX8_isOpen 23 = .ok (.ireturn, 1) := by decide +kernel
set_option maxRecDepth 20000 in
theorem ggX8_doesDecide_X8_isOpen : GoodIn wsX8_doesDecide wsX8_isOpen := goodIn_r _ [7, 2, 8, 9, 6, 10, 11, 12, 13, 14, 15, 16, 17, 18, 19, 20, 21, 22, 23, 24, 25, 26, 27, 28] (by decide +kernel) (by decide +kernel)
set_option maxRecDepth 20000 in
theorem gX8_doesDecide_X8_isOpen : GoodIn wsX8_doesDecide (wsV RX8 118 RX8 yX8_isOpen wsX8_isOpen) := goodIn_app (goodIn_of _ (by decide +kernel)) ggX8_doesDecide_X8_isOpen
set_option maxRecDepth 20000 in
theorem ggX8_doesDecide_X8_place : GoodIn wsX8_doesDecide wsX8_place := goodIn_r _ [10] (by decide +kernel) (by decide +kernel)
set_option maxRecDepth 20000 in
theorem gX8_doesDecide_X8_place : GoodIn wsX8_doesDecide (va_wsS RX8 92 yX8_place wsX8_place) := goodIn_app (goodIn_of _ (by decide +kernel)) ggX8_doesDecide_X8_place
theorem dX8_doesDecide_0 : decode cX8_doesDecide 0 = .ok (.iconst 0, 1) := by decide +kernel
theorem dX8_doesDecide_1 : decode cX8_doesDecide 1 = .ok (.istore_n 2, 1) := by decide +kernel
theorem dX8_doesDecide_2 : decode cX8_doesDecide 2 = .ok (.iload_n 2, 1) := by decide +kernel
theorem dX8_doesDecide_3 : decode cX8_doesDecide 3 = .ok (.aload_n 0, 1) := by decide +kernel
theorem dX8_doesDecide_4 : decode cX8_doesDecide 4 = .ok (.getfield 83, 3) := by decide +kernel
theorem dX8_doesDecide_7 : decode cX8_doesDecide 7 = .ok (.if_icmp .ge 64, 3) := by decide +kernel
theorem dX8_doesDecide_10 : decode cX8_doesDecide 10 = .ok (.aload_n 0, 1) := by decide +kernel
theorem dX8_doesDecide_11 : decode cX8_doesDecide 11 = .ok (.iload_n 1, 1) := by decide +kernel
theorem dX8_doesDecide_12 : decode cX8_doesDecide 12 = .ok (.iload_n 2, 1) := by decide +kernel
theorem dX8_doesDecide_13 : decode cX8_doesDecide 13 = .ok (.invokevirtual 118, 3) := by decide +kernel
theorem dX8_doesDecide_16 : decode cX8_doesDecide 16 = .ok (.ifCond .eq 49, 3) := by decide +kernel
theorem dX8_doesDecide_19 : decode cX8_doesDecide 19 = .ok (.aload_n 0, 1) := by decide +kernel
theorem dX8_doesDecide_20 : decode cX8_doesDecide 20 = .ok (.getfield 7, 3) := by decide +kernel
theorem dX8_doesDecide_23 : decode cX8_doesDecide 23 = .ok (.iconst 0, 1) := by decide +kernel
theorem dX8_doesDecide_24 : decode cX8_doesDecide 24 = .ok (.iload_n 1, 1) := by decide +kernel
theorem dX8_doesDecide_25 : decode cX8_doesDecide 25 = .ok (.iadd, 1) := by decide +kernel
theorem dX8_doesDecide_26 : decode cX8_doesDecide 26 = .ok (.iaload, 1) := by decide +kernel
theorem dX8_doesDecide_27 : decode cX8_doesDecide 27 = .ok (.istore_n 3, 1) := by decide +kernel
theorem dX8_doesDecide_28 : decode cX8_doesDecide 28 = .ok (.aload_n 0, 1) := by decide +kernel
theorem dX8_doesDecide_29 : decode cX8_doesDecide 29 = .ok (.getfield 7, 3) := by decide +kernel
theorem dX8_doesDecide_32 : decode cX8_doesDecide 32 = .ok (.iload_n 1, 1) := by decide +kernel
theorem dX8_doesDecide_33 : decode cX8_doesDecide 33 = .ok (.iload_n 2, 1) := by decide +kernel
theorem dX8_doesDecide_34 : decode cX8_doesDecide 34 = .ok (.invokestatic 92, 3) := by decide +kernel
theorem dX8_doesDecide_37 : decode cX8_doesDecide 37 = .ok (.bipush 11, 2) := by decide +kernel
theorem dX8_doesDecide_39 : decode cX8_doesDecide 39 = .ok (.iadd, 1) := by decide +kernel
theorem dX8_doesDecide_40 : decode cX8_doesDecide 40 = .ok (.iaload, 1) := by decide +kernel
theorem dX8_doesDecide_41 : decode cX8_doesDecide 41 = .ok (.istore 4, 2) := by decide +kernel
theorem dX8_doesDecide_43 : decode cX8_doesDecide 43 = .ok (.iload_n 3, 1) := by decide +kernel
theorem dX8_doesDecide_44 : decode cX8_doesDecide 44 = .ok (.iload 4, 2) := by decide +kernel
theorem dX8_doesDecide_46 : decode cX8_doesDecide 46 = .ok (.if_icmp .lt 13, 3) := by decide +kernel
theorem dX8_doesDecide_49 : decode cX8_doesDecide 49 = .ok (.iload_n 3, 1) := by decide +kernel
theorem dX8_doesDecide_50 : decode cX8_doesDecide 50 = .ok (.iload 4, 2) := by decide +kernel
theorem dX8_doesDecide_52 : decode cX8_doesDecide 52 = .ok (.if_icmp .ne 11, 3) := by decide +kernel
theorem dX8_doesDecide_55 : decode cX8_doesDecide 55 = .ok (.iload_n 1, 1) := by decide +kernel
theorem dX8_doesDecide_56 : decode cX8_doesDecide 56 = .ok (.ifCond .ne 7, 3) := by decide +kernel
theorem dX8_doesDecide_59 : decode cX8_doesDecide 59 = .ok (.iconst 1, 1) := by decide +kernel
theorem dX8_doesDecide_60 : decode cX8_doesDecide 60 = .ok (.goto 4, 3) := by decide +kernel
theorem dX8_doesDecide_63 : decode cX8_doesDecide 63 = .ok (.iconst 0, 1) := by decide +kernel
theorem dX8_doesDecide_64 : decode cX8_doesDecide 64 = .ok (.ireturn, 1) := by decide +kernel
theorem dX8_doesDecide_65 : decode cX8_doesDecide 65 = .ok (.iinc 2 1, 3) := by decide +kernel
theorem dX8_doesDecide_68 : decode cX8_doesDecide 68 = .ok (.goto (-66), 3) := by decide +kernel
theorem dX8_doesDecide_71 : decode cX8_doesDecide 71 = .ok (.iconst 1, 1) := by decide +kernel
theorem dX8_doesDecide_72 : decode cX8_doesDecide 72 = .ok (.ireturn, 1) := by decide +kernel
set_option maxRecDepth 20000 in
theorem ggX8_isPair_X8_place : GoodIn wsX8_isPair wsX8_place := goodIn_r _ [5] (by decide +kernel) (by decide +kernel)
set_option maxRecDepth 20000 in
theorem gX8_isPair_X8_place : GoodIn wsX8_isPair (va_wsS RX8 92 yX8_place wsX8_place) := goodIn_app (goodIn_of _ (by decide +kernel)) ggX8_isPair_X8_place
theorem dX8_isPair_0 : decode cX8_isPair 0 = .ok (.aload_n 0, 1) := by decide +kernel
theorem dX8_isPair_1 : decode cX8_isPair 1 = .ok (.getfield 7, 3) := by decide +kernel
theorem dX8_isPair_4 : decode cX8_isPair 4 = .ok (.iload_n 1, 1) := by decide +kernel
theorem dX8_isPair_5 : decode cX8_isPair 5 = .ok (.iload_n 2, 1) := by decide +kernel
theorem dX8_isPair_6 : decode cX8_isPair 6 = .ok (.invokestatic 92, 3) := by decide +kernel
theorem dX8_isPair_9 : decode cX8_isPair 9 = .ok (.iconst 0, 1) := by decide +kernel
theorem dX8_isPair_10 : decode cX8_isPair 10 = .ok (.iadd, 1) := by decide +kernel
theorem dX8_isPair_11 : decode cX8_isPair 11 = .ok (.iaload, 1) := by decide +kernel
theorem dX8_isPair_12 : decode cX8_isPair 12 = .ok (.aload_n 0, 1) := by decide +kernel
theorem dX8_isPair_13 : decode cX8_isPair 13 = .ok (.getfield 7, 3) := by decide +kernel
theorem dX8_isPair_16 : decode cX8_isPair 16 = .ok (.iload_n 1, 1) := by decide +kernel
theorem dX8_isPair_17 : decode cX8_isPair 17 = .ok (.iload_n 3, 1) := by decide +kernel
theorem dX8_isPair_18 : decode cX8_isPair 18 = .ok (.invokestatic 92, 3) := by decide +kernel
theorem dX8_isPair_21 : decode cX8_isPair 21 = .ok (.iconst 0, 1) := by decide +kernel
theorem dX8_isPair_22 : decode cX8_isPair 22 = .ok (.iadd, 1) := by decide +kernel
theorem dX8_isPair_23 : decode cX8_isPair 23 = .ok (.iaload, 1) := by decide +kernel
theorem dX8_isPair_24 : decode cX8_isPair 24 = .ok (.if_icmp .ne 36, 3) := by decide +kernel
theorem dX8_isPair_27 : decode cX8_isPair 27 = .ok (.aload_n 0, 1) := by decide +kernel
theorem dX8_isPair_28 : decode cX8_isPair 28 = .ok (.getfield 7, 3) := by decide +kernel
theorem dX8_isPair_31 : decode cX8_isPair 31 = .ok (.iload_n 1, 1) := by decide +kernel
theorem dX8_isPair_32 : decode cX8_isPair 32 = .ok (.iload_n 2, 1) := by decide +kernel
theorem dX8_isPair_33 : decode cX8_isPair 33 = .ok (.invokestatic 92, 3) := by decide +kernel
theorem dX8_isPair_36 : decode cX8_isPair 36 = .ok (.bipush 9, 2) := by decide +kernel
theorem dX8_isPair_38 : decode cX8_isPair 38 = .ok (.iadd, 1) := by decide +kernel
theorem dX8_isPair_39 : decode cX8_isPair 39 = .ok (.iaload, 1) := by decide +kernel
theorem dX8_isPair_40 : decode cX8_isPair 40 = .ok (.aload_n 0, 1) := by decide +kernel
theorem dX8_isPair_41 : decode cX8_isPair 41 = .ok (.getfield 7, 3) := by decide +kernel
theorem dX8_isPair_44 : decode cX8_isPair 44 = .ok (.iload_n 1, 1) := by decide +kernel
theorem dX8_isPair_45 : decode cX8_isPair 45 = .ok (.iload_n 3, 1) := by decide +kernel
theorem dX8_isPair_46 : decode cX8_isPair 46 = .ok (.invokestatic 92, 3) := by decide +kernel
theorem dX8_isPair_49 : decode cX8_isPair 49 = .ok (.bipush 9, 2) := by decide +kernel
theorem dX8_isPair_51 : decode cX8_isPair 51 = .ok (.iadd, 1) := by decide +kernel
theorem dX8_isPair_52 : decode cX8_isPair 52 = .ok (.iaload, 1) := by decide +kernel
theorem dX8_isPair_53 : decode cX8_isPair 53 = .ok (.if_icmp .ne 7, 3) := by decide +kernel
theorem dX8_isPair_56 : decode cX8_isPair 56 = .ok (.iconst 1, 1) := by decide +kernel
theorem dX8_isPair_57 : decode cX8_isPair 57 = .ok (.goto 4, 3) := by decide +kernel
theorem dX8_isPair_60 : decode cX8_isPair 60 = .ok (.iconst 0, 1) := by decide +kernel
theorem dX8_isPair_61 : decode cX8_isPair 61 = .ok (.ireturn, 1) := by decide +kernel
set_option maxRecDepth 20000 in
theorem ggX8_ahead_X8_place : GoodIn wsX8_ahead wsX8_place := goodIn_r _ [6] (by decide +kernel) (by decide +kernel)
set_option maxRecDepth 20000 in
theorem gX8_ahead_X8_place : GoodIn wsX8_ahead (va_wsS RX8 92 yX8_place wsX8_place) := goodIn_app (goodIn_of _ (by decide +kernel)) ggX8_ahead_X8_place
set_option maxRecDepth 20000 in
theorem ggX8_ahead_X8_isOpen : GoodIn wsX8_ahead wsX8_isOpen := goodIn_r _ [10, 1, 3, 4, 5, 6, 15, 16, 17, 18, 19, 20, 21, 22, 23, 24, 25, 26, 27, 28, 29, 30, 31, 32] (by decide +kernel) (by decide +kernel)
set_option maxRecDepth 20000 in
theorem gX8_ahead_X8_isOpen : GoodIn wsX8_ahead (wsV RX8 118 RX8 yX8_isOpen wsX8_isOpen) := goodIn_app (goodIn_of _ (by decide +kernel)) ggX8_ahead_X8_isOpen
set_option maxRecDepth 20000 in
theorem ggX8_ahead_X8_isPair : GoodIn wsX8_ahead wsX8_isPair := goodIn_r _ [14, 1, 3, 4, 5, 6, 15, 16, 17, 18, 19, 20, 21, 22, 23, 24, 25, 26, 27, 28, 29, 30, 31, 32] (by decide +kernel) (by decide +kernel)
set_option maxRecDepth 20000 in
theorem gX8_ahead_X8_isPair : GoodIn wsX8_ahead (wsV RX8 122 RX8 yX8_isPair wsX8_isPair) := goodIn_app (goodIn_of _ (by decide +kernel)) ggX8_ahead_X8_isPair
theorem dX8_ahead_0 : decode cX8_ahead 0 = .ok (.iconst 0, 1) := by decide +kernel
theorem dX8_ahead_1 : decode cX8_ahead 1 = .ok (.istore 5, 2) := by decide +kernel
theorem dX8_ahead_3 : decode cX8_ahead 3 = .ok (.aload_n 0, 1) := by decide +kernel
theorem dX8_ahead_4 : decode cX8_ahead 4 = .ok (.getfield 7, 3) := by decide +kernel
theorem dX8_ahead_7 : decode cX8_ahead 7 = .ok (.iload_n 1, 1) := by decide +kernel
theorem dX8_ahead_8 : decode cX8_ahead 8 = .ok (.iload_n 2, 1) := by decide +kernel
theorem dX8_ahead_9 : decode cX8_ahead 9 = .ok (.invokestatic 92, 3) := by decide +kernel
theorem dX8_ahead_12 : decode cX8_ahead 12 = .ok (.iload_n 3, 1) := by decide +kernel
theorem dX8_ahead_13 : decode cX8_ahead 13 = .ok (.iadd, 1) := by decide +kernel
theorem dX8_ahead_14 : decode cX8_ahead 14 = .ok (.iaload, 1) := by decide +kernel
theorem dX8_ahead_15 : decode cX8_ahead 15 = .ok (.istore 6, 2) := by decide +kernel
theorem dX8_ahead_17 : decode cX8_ahead 17 = .ok (.iconst 0, 1) := by decide +kernel
theorem dX8_ahead_18 : decode cX8_ahead 18 = .ok (.istore 7, 2) := by decide +kernel
theorem dX8_ahead_20 : decode cX8_ahead 20 = .ok (.iload 7, 2) := by decide +kernel
theorem dX8_ahead_22 : decode cX8_ahead 22 = .ok (.aload_n 0, 1) := by decide +kernel
theorem dX8_ahead_23 : decode cX8_ahead 23 = .ok (.getfield 83, 3) := by decide +kernel
theorem dX8_ahead_26 : decode cX8_ahead 26 = .ok (.if_icmp .ge 92, 3) := by decide +kernel
theorem dX8_ahead_29 : decode cX8_ahead 29 = .ok (.aload_n 0, 1) := by decide +kernel
theorem dX8_ahead_30 : decode cX8_ahead 30 = .ok (.getfield 7, 3) := by decide +kernel
theorem dX8_ahead_33 : decode cX8_ahead 33 = .ok (.iload_n 1, 1) := by decide +kernel
theorem dX8_ahead_34 : decode cX8_ahead 34 = .ok (.iload 7, 2) := by decide +kernel
theorem dX8_ahead_36 : decode cX8_ahead 36 = .ok (.invokestatic 92, 3) := by decide +kernel
theorem dX8_ahead_39 : decode cX8_ahead 39 = .ok (.iload_n 3, 1) := by decide +kernel
theorem dX8_ahead_40 : decode cX8_ahead 40 = .ok (.iadd, 1) := by decide +kernel
theorem dX8_ahead_41 : decode cX8_ahead 41 = .ok (.iaload, 1) := by decide +kernel
theorem dX8_ahead_42 : decode cX8_ahead 42 = .ok (.istore 8, 2) := by decide +kernel
theorem dX8_ahead_44 : decode cX8_ahead 44 = .ok (.aload_n 0, 1) := by decide +kernel
theorem dX8_ahead_45 : decode cX8_ahead 45 = .ok (.iload_n 1, 1) := by decide +kernel
theorem dX8_ahead_46 : decode cX8_ahead 46 = .ok (.iload 7, 2) := by decide +kernel
theorem dX8_ahead_48 : decode cX8_ahead 48 = .ok (.invokevirtual 118, 3) := by decide +kernel
theorem dX8_ahead_51 : decode cX8_ahead 51 = .ok (.ifCond .eq 27, 3) := by decide +kernel
theorem dX8_ahead_54 : decode cX8_ahead 54 = .ok (.iload 8, 2) := by decide +kernel
theorem dX8_ahead_56 : decode cX8_ahead 56 = .ok (.iload 6, 2) := by decide +kernel
theorem dX8_ahead_58 : decode cX8_ahead 58 = .ok (.if_icmp .lt 16, 3) := by decide +kernel
theorem dX8_ahead_61 : decode cX8_ahead 61 = .ok (.iload 8, 2) := by decide +kernel
theorem dX8_ahead_63 : decode cX8_ahead 63 = .ok (.iload 6, 2) := by decide +kernel
theorem dX8_ahead_65 : decode cX8_ahead 65 = .ok (.if_icmp .ne 13, 3) := by decide +kernel
theorem dX8_ahead_68 : decode cX8_ahead 68 = .ok (.iload 7, 2) := by decide +kernel
theorem dX8_ahead_70 : decode cX8_ahead 70 = .ok (.iload_n 2, 1) := by decide +kernel
theorem dX8_ahead_71 : decode cX8_ahead 71 = .ok (.if_icmp .ge 7, 3) := by decide +kernel
theorem dX8_ahead_74 : decode cX8_ahead 74 = .ok (.iconst 1, 1) := by decide +kernel
theorem dX8_ahead_75 : decode cX8_ahead 75 = .ok (.goto 4, 3) := by decide +kernel
theorem dX8_ahead_78 : decode cX8_ahead 78 = .ok (.iconst 0, 1) := by decide +kernel
theorem dX8_ahead_79 : decode cX8_ahead 79 = .ok (.istore 9, 2) := by decide +kernel
theorem dX8_ahead_81 : decode cX8_ahead 81 = .ok (.iload 5, 2) := by decide +kernel
theorem dX8_ahead_83 : decode cX8_ahead 83 = .ok (.iload 9, 2) := by decide +kernel
theorem dX8_ahead_85 : decode cX8_ahead 85 = .ok (.ifCond .eq 23, 3) := by decide +kernel
theorem dX8_ahead_88 : decode cX8_ahead 88 = .ok (.iload 4, 2) := by decide +kernel
theorem dX8_ahead_90 : decode cX8_ahead 90 = .ok (.ifCond .ne 14, 3) := by decide +kernel
theorem dX8_ahead_93 : decode cX8_ahead 93 = .ok (.aload_n 0, 1) := by decide +kernel
theorem dX8_ahead_94 : decode cX8_ahead 94 = .ok (.iload_n 1, 1) := by decide +kernel
theorem dX8_ahead_95 : decode cX8_ahead 95 = .ok (.iload_n 2, 1) := by decide +kernel
theorem dX8_ahead_96 : decode cX8_ahead 96 = .ok (.iload 7, 2) := by decide +kernel
theorem dX8_ahead_98 : decode cX8_ahead 98 = .ok (.invokevirtual 122, 3) := by decide +kernel
theorem dX8_ahead_101 : decode cX8_ahead 101 = .ok (.ifCond .eq 7, 3) := by decide +kernel
theorem dX8_ahead_104 : decode cX8_ahead 104 = .ok (.iconst 1, 1) := by decide +kernel
theorem dX8_ahead_105 : decode cX8_ahead 105 = .ok (.goto 4, 3) := by decide +kernel
theorem dX8_ahead_108 : decode cX8_ahead 108 = .ok (.iconst 0, 1) := by decide +kernel
theorem dX8_ahead_109 : decode cX8_ahead 109 = .ok (.iadd, 1) := by decide +kernel
theorem dX8_ahead_110 : decode cX8_ahead 110 = .ok (.istore 5, 2) := by decide +kernel
theorem dX8_ahead_112 : decode cX8_ahead 112 = .ok (.iinc 7 1, 3) := by decide +kernel
theorem dX8_ahead_115 : decode cX8_ahead 115 = .ok (.goto (-95), 3) := by decide +kernel
theorem dX8_ahead_118 : decode cX8_ahead 118 = .ok (.iload 5, 2) := by decide +kernel
theorem dX8_ahead_120 : decode cX8_ahead 120 = .ok (.ireturn, 1) := by decide +kernel
set_option maxRecDepth 20000 in
theorem ggX8_chooses_X8_doesDecide : GoodIn wsX8_chooses wsX8_doesDecide := goodIn_r _ [8, 1, 3, 9, 10, 11, 7, 12, 13, 14, 15, 24, 25, 26, 27, 28, 29, 30, 31, 32, 33, 34, 35, 36, 37, 38, 39, 40, 41] (by decide +kernel) (by decide +kernel)
set_option maxRecDepth 20000 in
theorem gX8_chooses_X8_doesDecide : GoodIn wsX8_chooses (wsV RX8 125 RX8 yX8_doesDecide wsX8_doesDecide) := goodIn_app (goodIn_of _ (by decide +kernel)) ggX8_chooses_X8_doesDecide
set_option maxRecDepth 20000 in
theorem ggX8_chooses_X8_isOpen : GoodIn wsX8_chooses wsX8_isOpen := goodIn_r _ [12, 3, 13, 14, 7, 15, 24, 25, 26, 27, 28, 29, 30, 31, 32, 33, 34, 35, 36, 37, 38, 39, 40, 41] (by decide +kernel) (by decide +kernel)
set_option maxRecDepth 20000 in
theorem gX8_chooses_X8_isOpen : GoodIn wsX8_chooses (wsV RX8 118 RX8 yX8_isOpen wsX8_isOpen) := goodIn_app (goodIn_of _ (by decide +kernel)) ggX8_chooses_X8_isOpen
set_option maxRecDepth 20000 in
theorem ggX8_chooses_X8_ahead : GoodIn wsX8_chooses wsX8_ahead := goodIn_r _ [19, 3, 1, 13, 14, 7, 15, 9, 10, 11, 12, 20, 21, 22, 23, 24, 25, 26, 27, 28, 29, 30, 31, 32, 33, 34, 35, 36, 37, 38, 39, 40, 41] (by decide +kernel) (by decide +kernel)
set_option maxRecDepth 20000 in
theorem gX8_chooses_X8_ahead : GoodIn wsX8_chooses (wsV RX8 128 RX8 yX8_ahead wsX8_ahead) := goodIn_app (goodIn_of _ (by decide +kernel)) ggX8_chooses_X8_ahead
set_option maxRecDepth 20000 in
theorem ggX8_chooses_X8_isPair : GoodIn wsX8_chooses wsX8_isPair := goodIn_r _ [23, 3, 13, 14, 7, 15, 24, 25, 26, 27, 28, 29, 30, 31, 32, 33, 34, 35, 36, 37, 38, 39, 40, 41] (by decide +kernel) (by decide +kernel)
set_option maxRecDepth 20000 in
theorem gX8_chooses_X8_isPair : GoodIn wsX8_chooses (wsV RX8 122 RX8 yX8_isPair wsX8_isPair) := goodIn_app (goodIn_of _ (by decide +kernel)) ggX8_chooses_X8_isPair
theorem dX8_chooses_0 : decode cX8_chooses 0 = .ok (.aload_n 0, 1) := by decide +kernel
theorem dX8_chooses_1 : decode cX8_chooses 1 = .ok (.iload_n 1, 1) := by decide +kernel
theorem dX8_chooses_2 : decode cX8_chooses 2 = .ok (.invokevirtual 125, 3) := by decide +kernel
theorem dX8_chooses_5 : decode cX8_chooses 5 = .ok (.ifCond .eq 7, 3) := by decide +kernel
theorem dX8_chooses_8 : decode cX8_chooses 8 = .ok (.iconst 1, 1) := by decide +kernel
theorem dX8_chooses_9 : decode cX8_chooses 9 = .ok (.goto 5, 3) := by decide +kernel
theorem dX8_chooses_12 : decode cX8_chooses 12 = .ok (.bipush 10, 2) := by decide +kernel
theorem dX8_chooses_14 : decode cX8_chooses 14 = .ok (.istore_n 2, 1) := by decide +kernel
theorem dX8_chooses_15 : decode cX8_chooses 15 = .ok (.bipush (-4), 2) := by decide +kernel
theorem dX8_chooses_17 : decode cX8_chooses 17 = .ok (.istore_n 3, 1) := by decide +kernel
theorem dX8_chooses_18 : decode cX8_chooses 18 = .ok (.iconst 0, 1) := by decide +kernel
theorem dX8_chooses_19 : decode cX8_chooses 19 = .ok (.istore 4, 2) := by decide +kernel
theorem dX8_chooses_21 : decode cX8_chooses 21 = .ok (.iload 4, 2) := by decide +kernel
theorem dX8_chooses_23 : decode cX8_chooses 23 = .ok (.aload_n 0, 1) := by decide +kernel
theorem dX8_chooses_24 : decode cX8_chooses 24 = .ok (.getfield 83, 3) := by decide +kernel
theorem dX8_chooses_27 : decode cX8_chooses 27 = .ok (.if_icmp .ge 38, 3) := by decide +kernel
theorem dX8_chooses_30 : decode cX8_chooses 30 = .ok (.aload_n 0, 1) := by decide +kernel
theorem dX8_chooses_31 : decode cX8_chooses 31 = .ok (.iload_n 1, 1) := by decide +kernel
theorem dX8_chooses_32 : decode cX8_chooses 32 = .ok (.iload 4, 2) := by decide +kernel
theorem dX8_chooses_34 : decode cX8_chooses 34 = .ok (.invokevirtual 118, 3) := by decide +kernel
theorem dX8_chooses_37 : decode cX8_chooses 37 = .ok (.ifCond .eq 20, 3) := by decide +kernel
theorem dX8_chooses_40 : decode cX8_chooses 40 = .ok (.aload_n 0, 1) := by decide +kernel
theorem dX8_chooses_41 : decode cX8_chooses 41 = .ok (.iload_n 1, 1) := by decide +kernel
theorem dX8_chooses_42 : decode cX8_chooses 42 = .ok (.iload 4, 2) := by decide +kernel
theorem dX8_chooses_44 : decode cX8_chooses 44 = .ok (.iload_n 2, 1) := by decide +kernel
theorem dX8_chooses_45 : decode cX8_chooses 45 = .ok (.iconst 1, 1) := by decide +kernel
theorem dX8_chooses_46 : decode cX8_chooses 46 = .ok (.invokevirtual 128, 3) := by decide +kernel
theorem dX8_chooses_49 : decode cX8_chooses 49 = .ok (.ifCond .ne 8, 3) := by decide +kernel
theorem dX8_chooses_52 : decode cX8_chooses 52 = .ok (.iload 4, 2) := by decide +kernel
theorem dX8_chooses_54 : decode cX8_chooses 54 = .ok (.goto 4, 3) := by decide +kernel
theorem dX8_chooses_57 : decode cX8_chooses 57 = .ok (.iload_n 3, 1) := by decide +kernel
theorem dX8_chooses_58 : decode cX8_chooses 58 = .ok (.istore_n 3, 1) := by decide +kernel
theorem dX8_chooses_59 : decode cX8_chooses 59 = .ok (.iinc 4 1, 3) := by decide +kernel
theorem dX8_chooses_62 : decode cX8_chooses 62 = .ok (.goto (-41), 3) := by decide +kernel
theorem dX8_chooses_65 : decode cX8_chooses 65 = .ok (.iconst 0, 1) := by decide +kernel
theorem dX8_chooses_66 : decode cX8_chooses 66 = .ok (.istore 4, 2) := by decide +kernel
theorem dX8_chooses_68 : decode cX8_chooses 68 = .ok (.iload 4, 2) := by decide +kernel
theorem dX8_chooses_70 : decode cX8_chooses 70 = .ok (.aload_n 0, 1) := by decide +kernel
theorem dX8_chooses_71 : decode cX8_chooses 71 = .ok (.getfield 83, 3) := by decide +kernel
theorem dX8_chooses_74 : decode cX8_chooses 74 = .ok (.if_icmp .ge 60, 3) := by decide +kernel
theorem dX8_chooses_77 : decode cX8_chooses 77 = .ok (.aload_n 0, 1) := by decide +kernel
theorem dX8_chooses_78 : decode cX8_chooses 78 = .ok (.getfield 37, 3) := by decide +kernel
theorem dX8_chooses_81 : decode cX8_chooses 81 = .ok (.iload 4, 2) := by decide +kernel
theorem dX8_chooses_83 : decode cX8_chooses 83 = .ok (.aload_n 0, 1) := by decide +kernel
theorem dX8_chooses_84 : decode cX8_chooses 84 = .ok (.iload_n 1, 1) := by decide +kernel
theorem dX8_chooses_85 : decode cX8_chooses 85 = .ok (.iload 4, 2) := by decide +kernel
theorem dX8_chooses_87 : decode cX8_chooses 87 = .ok (.invokevirtual 118, 3) := by decide +kernel
theorem dX8_chooses_90 : decode cX8_chooses 90 = .ok (.ifCond .eq 36, 3) := by decide +kernel
theorem dX8_chooses_93 : decode cX8_chooses 93 = .ok (.aload_n 0, 1) := by decide +kernel
theorem dX8_chooses_94 : decode cX8_chooses 94 = .ok (.iload_n 1, 1) := by decide +kernel
theorem dX8_chooses_95 : decode cX8_chooses 95 = .ok (.iload 4, 2) := by decide +kernel
theorem dX8_chooses_97 : decode cX8_chooses 97 = .ok (.iload_n 3, 1) := by decide +kernel
theorem dX8_chooses_98 : decode cX8_chooses 98 = .ok (.invokevirtual 122, 3) := by decide +kernel
theorem dX8_chooses_101 : decode cX8_chooses 101 = .ok (.ifCond .eq 25, 3) := by decide +kernel
theorem dX8_chooses_104 : decode cX8_chooses 104 = .ok (.aload_n 0, 1) := by decide +kernel
theorem dX8_chooses_105 : decode cX8_chooses 105 = .ok (.iload_n 1, 1) := by decide +kernel
theorem dX8_chooses_106 : decode cX8_chooses 106 = .ok (.iload 4, 2) := by decide +kernel
theorem dX8_chooses_108 : decode cX8_chooses 108 = .ok (.iload_n 2, 1) := by decide +kernel
theorem dX8_chooses_109 : decode cX8_chooses 109 = .ok (.iconst 0, 1) := by decide +kernel
theorem dX8_chooses_110 : decode cX8_chooses 110 = .ok (.invokevirtual 128, 3) := by decide +kernel
theorem dX8_chooses_113 : decode cX8_chooses 113 = .ok (.aload_n 0, 1) := by decide +kernel
theorem dX8_chooses_114 : decode cX8_chooses 114 = .ok (.getfield 7, 3) := by decide +kernel
theorem dX8_chooses_117 : decode cX8_chooses 117 = .ok (.iconst 2, 1) := by decide +kernel
theorem dX8_chooses_118 : decode cX8_chooses 118 = .ok (.iaload, 1) := by decide +kernel
theorem dX8_chooses_119 : decode cX8_chooses 119 = .ok (.if_icmp .ge 7, 3) := by decide +kernel
theorem dX8_chooses_122 : decode cX8_chooses 122 = .ok (.iconst 1, 1) := by decide +kernel
theorem dX8_chooses_123 : decode cX8_chooses 123 = .ok (.goto 4, 3) := by decide +kernel
theorem dX8_chooses_126 : decode cX8_chooses 126 = .ok (.iconst 0, 1) := by decide +kernel
theorem dX8_chooses_127 : decode cX8_chooses 127 = .ok (.bastore, 1) := by decide +kernel
theorem dX8_chooses_128 : decode cX8_chooses 128 = .ok (.iinc 4 1, 3) := by decide +kernel
theorem dX8_chooses_131 : decode cX8_chooses 131 = .ok (.goto (-63), 3) := by decide +kernel
theorem dX8_chooses_134 : decode cX8_chooses 134 = .ok (.return_, 1) := by decide +kernel
theorem dX8_howOf_0 : decode cX8_howOf 0 = .ok (.aload_n 0, 1) := by decide +kernel
theorem dX8_howOf_1 : decode cX8_howOf 1 = .ok (.getfield 7, 3) := by decide +kernel
theorem dX8_howOf_4 : decode cX8_howOf 4 = .ok (.iconst 4, 1) := by decide +kernel
theorem dX8_howOf_5 : decode cX8_howOf 5 = .ok (.iload_n 2, 1) := by decide +kernel
theorem dX8_howOf_6 : decode cX8_howOf 6 = .ok (.iadd, 1) := by decide +kernel
theorem dX8_howOf_7 : decode cX8_howOf 7 = .ok (.iaload, 1) := by decide +kernel
theorem dX8_howOf_8 : decode cX8_howOf 8 = .ok (.ifCond .ne 5, 3) := by decide +kernel
theorem dX8_howOf_11 : decode cX8_howOf 11 = .ok (.iconst 0, 1) := by decide +kernel
theorem dX8_howOf_12 : decode cX8_howOf 12 = .ok (.ireturn, 1) := by decide +kernel
theorem dX8_howOf_13 : decode cX8_howOf 13 = .ok (.aload_n 0, 1) := by decide +kernel
theorem dX8_howOf_14 : decode cX8_howOf 14 = .ok (.getfield 7, 3) := by decide +kernel
theorem dX8_howOf_17 : decode cX8_howOf 17 = .ok (.iload_n 1, 1) := by decide +kernel
theorem dX8_howOf_18 : decode cX8_howOf 18 = .ok (.bipush 8, 2) := by decide +kernel
theorem dX8_howOf_20 : decode cX8_howOf 20 = .ok (.iadd, 1) := by decide +kernel
theorem dX8_howOf_21 : decode cX8_howOf 21 = .ok (.iaload, 1) := by decide +kernel
theorem dX8_howOf_22 : decode cX8_howOf 22 = .ok (.bipush (-4), 2) := by decide +kernel
theorem dX8_howOf_24 : decode cX8_howOf 24 = .ok (.if_icmp .ne 5, 3) := by decide +kernel
theorem dX8_howOf_27 : decode cX8_howOf 27 = .ok (.iconst 1, 1) := by decide +kernel
theorem dX8_howOf_28 : decode cX8_howOf 28 = .ok (.ireturn, 1) := by decide +kernel
theorem dX8_howOf_29 : decode cX8_howOf 29 = .ok (.aload_n 0, 1) := by decide +kernel
theorem dX8_howOf_30 : decode cX8_howOf 30 = .ok (.getfield 7, 3) := by decide +kernel
theorem dX8_howOf_33 : decode cX8_howOf 33 = .ok (.iload_n 1, 1) := by decide +kernel
theorem dX8_howOf_34 : decode cX8_howOf 34 = .ok (.bipush 13, 2) := by decide +kernel
theorem dX8_howOf_36 : decode cX8_howOf 36 = .ok (.iadd, 1) := by decide +kernel
theorem dX8_howOf_37 : decode cX8_howOf 37 = .ok (.iaload, 1) := by decide +kernel
theorem dX8_howOf_38 : decode cX8_howOf 38 = .ok (.bipush (-4), 2) := by decide +kernel
theorem dX8_howOf_40 : decode cX8_howOf 40 = .ok (.if_icmp .ne 5, 3) := by decide +kernel
theorem dX8_howOf_43 : decode cX8_howOf 43 = .ok (.iconst 2, 1) := by decide +kernel
theorem dX8_howOf_44 : decode cX8_howOf 44 = .ok (.ireturn, 1) := by decide +kernel
theorem dX8_howOf_45 : decode cX8_howOf 45 = .ok (.aload_n 0, 1) := by decide +kernel
theorem dX8_howOf_46 : decode cX8_howOf 46 = .ok (.getfield 7, 3) := by decide +kernel
theorem dX8_howOf_49 : decode cX8_howOf 49 = .ok (.iload_n 1, 1) := by decide +kernel
theorem dX8_howOf_50 : decode cX8_howOf 50 = .ok (.bipush 13, 2) := by decide +kernel
theorem dX8_howOf_52 : decode cX8_howOf 52 = .ok (.iadd, 1) := by decide +kernel
theorem dX8_howOf_53 : decode cX8_howOf 53 = .ok (.iaload, 1) := by decide +kernel
theorem dX8_howOf_54 : decode cX8_howOf 54 = .ok (.aload_n 0, 1) := by decide +kernel
theorem dX8_howOf_55 : decode cX8_howOf 55 = .ok (.getfield 86, 3) := by decide +kernel
theorem dX8_howOf_58 : decode cX8_howOf 58 = .ok (.if_icmp .ge 7, 3) := by decide +kernel
theorem dX8_howOf_61 : decode cX8_howOf 61 = .ok (.iconst 3, 1) := by decide +kernel
theorem dX8_howOf_62 : decode cX8_howOf 62 = .ok (.goto 20, 3) := by decide +kernel
theorem dX8_howOf_65 : decode cX8_howOf 65 = .ok (.aload_n 0, 1) := by decide +kernel
theorem dX8_howOf_66 : decode cX8_howOf 66 = .ok (.getfield 7, 3) := by decide +kernel
theorem dX8_howOf_69 : decode cX8_howOf 69 = .ok (.iload_n 1, 1) := by decide +kernel
theorem dX8_howOf_70 : decode cX8_howOf 70 = .ok (.bipush 12, 2) := by decide +kernel
theorem dX8_howOf_72 : decode cX8_howOf 72 = .ok (.iadd, 1) := by decide +kernel
theorem dX8_howOf_73 : decode cX8_howOf 73 = .ok (.iaload, 1) := by decide +kernel
theorem dX8_howOf_74 : decode cX8_howOf 74 = .ok (.ifCond .ne 7, 3) := by decide +kernel
theorem dX8_howOf_77 : decode cX8_howOf 77 = .ok (.iconst 4, 1) := by decide +kernel
theorem dX8_howOf_78 : decode cX8_howOf 78 = .ok (.goto 4, 3) := by decide +kernel
theorem dX8_howOf_81 : decode cX8_howOf 81 = .ok (.iconst 5, 1) := by decide +kernel
theorem dX8_howOf_82 : decode cX8_howOf 82 = .ok (.ireturn, 1) := by decide +kernel
set_option maxRecDepth 20000 in
theorem ggX8_becomesHow_X8_chooses : GoodIn wsX8_becomesHow wsX8_chooses := goodIn_r _ [8, 1, 3, 2, 9, 10, 11, 7, 12, 13, 14, 15, 16, 17, 18, 19, 20, 21, 22, 23, 24, 25, 26, 27, 33, 34, 35, 36, 37, 38, 39, 40, 41, 42, 43, 44, 45, 46, 47, 48, 49, 50] (by decide +kernel) (by decide +kernel)
set_option maxRecDepth 20000 in
theorem gX8_becomesHow_X8_chooses : GoodIn wsX8_becomesHow (wsV RX8 132 RX8 yX8_chooses wsX8_chooses) := goodIn_app (goodIn_of _ (by decide +kernel)) ggX8_becomesHow_X8_chooses
set_option maxRecDepth 20000 in
theorem ggX8_becomesHow_X8_place : GoodIn wsX8_becomesHow wsX8_place := goodIn_r _ [19] (by decide +kernel) (by decide +kernel)
set_option maxRecDepth 20000 in
theorem gX8_becomesHow_X8_place : GoodIn wsX8_becomesHow (va_wsS RX8 92 yX8_place wsX8_place) := goodIn_app (goodIn_of _ (by decide +kernel)) ggX8_becomesHow_X8_place
set_option maxRecDepth 20000 in
theorem ggX8_becomesHow_X8_howOf : GoodIn wsX8_becomesHow wsX8_howOf := goodIn_r _ [31, 2, 32, 33, 34, 35, 36, 37, 38, 39, 40, 41, 42, 43, 44, 45, 46, 47, 48, 49, 50] (by decide +kernel) (by decide +kernel)
set_option maxRecDepth 20000 in
theorem gX8_becomesHow_X8_howOf : GoodIn wsX8_becomesHow (wsV RX8 135 RX8 yX8_howOf wsX8_howOf) := goodIn_app (goodIn_of _ (by decide +kernel)) ggX8_becomesHow_X8_howOf
theorem dX8_becomesHow_0 : decode cX8_becomesHow 0 = .ok (.aload_n 0, 1) := by decide +kernel
theorem dX8_becomesHow_1 : decode cX8_becomesHow 1 = .ok (.iload_n 1, 1) := by decide +kernel
theorem dX8_becomesHow_2 : decode cX8_becomesHow 2 = .ok (.invokevirtual 132, 3) := by decide +kernel
theorem dX8_becomesHow_5 : decode cX8_becomesHow 5 = .ok (.iconst 0, 1) := by decide +kernel
theorem dX8_becomesHow_6 : decode cX8_becomesHow 6 = .ok (.istore_n 2, 1) := by decide +kernel
theorem dX8_becomesHow_7 : decode cX8_becomesHow 7 = .ok (.iload_n 2, 1) := by decide +kernel
theorem dX8_becomesHow_8 : decode cX8_becomesHow 8 = .ok (.aload_n 0, 1) := by decide +kernel
theorem dX8_becomesHow_9 : decode cX8_becomesHow 9 = .ok (.getfield 83, 3) := by decide +kernel
theorem dX8_becomesHow_12 : decode cX8_becomesHow 12 = .ok (.if_icmp .ge 129, 3) := by decide +kernel
theorem dX8_becomesHow_15 : decode cX8_becomesHow 15 = .ok (.iload_n 1, 1) := by decide +kernel
theorem dX8_becomesHow_16 : decode cX8_becomesHow 16 = .ok (.iload_n 2, 1) := by decide +kernel
theorem dX8_becomesHow_17 : decode cX8_becomesHow 17 = .ok (.invokestatic 92, 3) := by decide +kernel
theorem dX8_becomesHow_20 : decode cX8_becomesHow 20 = .ok (.istore_n 3, 1) := by decide +kernel
theorem dX8_becomesHow_21 : decode cX8_becomesHow 21 = .ok (.aload_n 0, 1) := by decide +kernel
theorem dX8_becomesHow_22 : decode cX8_becomesHow 22 = .ok (.getfield 7, 3) := by decide +kernel
theorem dX8_becomesHow_25 : decode cX8_becomesHow 25 = .ok (.iload_n 3, 1) := by decide +kernel
theorem dX8_becomesHow_26 : decode cX8_becomesHow 26 = .ok (.bipush 13, 2) := by decide +kernel
theorem dX8_becomesHow_28 : decode cX8_becomesHow 28 = .ok (.iadd, 1) := by decide +kernel
theorem dX8_becomesHow_29 : decode cX8_becomesHow 29 = .ok (.aload_n 0, 1) := by decide +kernel
theorem dX8_becomesHow_30 : decode cX8_becomesHow 30 = .ok (.getfield 37, 3) := by decide +kernel
theorem dX8_becomesHow_33 : decode cX8_becomesHow 33 = .ok (.iload_n 2, 1) := by decide +kernel
theorem dX8_becomesHow_34 : decode cX8_becomesHow 34 = .ok (.baload, 1) := by decide +kernel
theorem dX8_becomesHow_35 : decode cX8_becomesHow 35 = .ok (.ifCond .ne 8, 3) := by decide +kernel
theorem dX8_becomesHow_38 : decode cX8_becomesHow 38 = .ok (.bipush (-4), 2) := by decide +kernel
theorem dX8_becomesHow_40 : decode cX8_becomesHow 40 = .ok (.goto 32, 3) := by decide +kernel
theorem dX8_becomesHow_43 : decode cX8_becomesHow 43 = .ok (.aload_n 0, 1) := by decide +kernel
theorem dX8_becomesHow_44 : decode cX8_becomesHow 44 = .ok (.getfield 7, 3) := by decide +kernel
theorem dX8_becomesHow_47 : decode cX8_becomesHow 47 = .ok (.iload_n 3, 1) := by decide +kernel
theorem dX8_becomesHow_48 : decode cX8_becomesHow 48 = .ok (.bipush 13, 2) := by decide +kernel
theorem dX8_becomesHow_50 : decode cX8_becomesHow 50 = .ok (.iadd, 1) := by decide +kernel
theorem dX8_becomesHow_51 : decode cX8_becomesHow 51 = .ok (.iaload, 1) := by decide +kernel
theorem dX8_becomesHow_52 : decode cX8_becomesHow 52 = .ok (.bipush (-4), 2) := by decide +kernel
theorem dX8_becomesHow_54 : decode cX8_becomesHow 54 = .ok (.if_icmp .ne 7, 3) := by decide +kernel
theorem dX8_becomesHow_57 : decode cX8_becomesHow 57 = .ok (.iconst 0, 1) := by decide +kernel
theorem dX8_becomesHow_58 : decode cX8_becomesHow 58 = .ok (.goto 14, 3) := by decide +kernel
theorem dX8_becomesHow_61 : decode cX8_becomesHow 61 = .ok (.aload_n 0, 1) := by decide +kernel
theorem dX8_becomesHow_62 : decode cX8_becomesHow 62 = .ok (.getfield 7, 3) := by decide +kernel
theorem dX8_becomesHow_65 : decode cX8_becomesHow 65 = .ok (.iload_n 3, 1) := by decide +kernel
theorem dX8_becomesHow_66 : decode cX8_becomesHow 66 = .ok (.bipush 13, 2) := by decide +kernel
theorem dX8_becomesHow_68 : decode cX8_becomesHow 68 = .ok (.iadd, 1) := by decide +kernel
theorem dX8_becomesHow_69 : decode cX8_becomesHow 69 = .ok (.iaload, 1) := by decide +kernel
theorem dX8_becomesHow_70 : decode cX8_becomesHow 70 = .ok (.iconst 1, 1) := by decide +kernel
theorem dX8_becomesHow_71 : decode cX8_becomesHow 71 = .ok (.iadd, 1) := by decide +kernel
theorem dX8_becomesHow_72 : decode cX8_becomesHow 72 = .ok (.iastore, 1) := by decide +kernel
theorem dX8_becomesHow_73 : decode cX8_becomesHow 73 = .ok (.aload_n 0, 1) := by decide +kernel
theorem dX8_becomesHow_74 : decode cX8_becomesHow 74 = .ok (.getfield 7, 3) := by decide +kernel
theorem dX8_becomesHow_77 : decode cX8_becomesHow 77 = .ok (.iload_n 3, 1) := by decide +kernel
theorem dX8_becomesHow_78 : decode cX8_becomesHow 78 = .ok (.bipush 14, 2) := by decide +kernel
theorem dX8_becomesHow_80 : decode cX8_becomesHow 80 = .ok (.iadd, 1) := by decide +kernel
theorem dX8_becomesHow_81 : decode cX8_becomesHow 81 = .ok (.iaload, 1) := by decide +kernel
theorem dX8_becomesHow_82 : decode cX8_becomesHow 82 = .ok (.istore 4, 2) := by decide +kernel
theorem dX8_becomesHow_84 : decode cX8_becomesHow 84 = .ok (.aload_n 0, 1) := by decide +kernel
theorem dX8_becomesHow_85 : decode cX8_becomesHow 85 = .ok (.getfield 7, 3) := by decide +kernel
theorem dX8_becomesHow_88 : decode cX8_becomesHow 88 = .ok (.iload_n 3, 1) := by decide +kernel
theorem dX8_becomesHow_89 : decode cX8_becomesHow 89 = .ok (.bipush 14, 2) := by decide +kernel
theorem dX8_becomesHow_91 : decode cX8_becomesHow 91 = .ok (.iadd, 1) := by decide +kernel
theorem dX8_becomesHow_92 : decode cX8_becomesHow 92 = .ok (.aload_n 0, 1) := by decide +kernel
theorem dX8_becomesHow_93 : decode cX8_becomesHow 93 = .ok (.iload_n 3, 1) := by decide +kernel
theorem dX8_becomesHow_94 : decode cX8_becomesHow 94 = .ok (.iload_n 2, 1) := by decide +kernel
theorem dX8_becomesHow_95 : decode cX8_becomesHow 95 = .ok (.invokevirtual 135, 3) := by decide +kernel
theorem dX8_becomesHow_98 : decode cX8_becomesHow 98 = .ok (.iastore, 1) := by decide +kernel
theorem dX8_becomesHow_99 : decode cX8_becomesHow 99 = .ok (.aload_n 0, 1) := by decide +kernel
theorem dX8_becomesHow_100 : decode cX8_becomesHow 100 = .ok (.getfield 7, 3) := by decide +kernel
theorem dX8_becomesHow_103 : decode cX8_becomesHow 103 = .ok (.iload_n 3, 1) := by decide +kernel
theorem dX8_becomesHow_104 : decode cX8_becomesHow 104 = .ok (.bipush 15, 2) := by decide +kernel
theorem dX8_becomesHow_106 : decode cX8_becomesHow 106 = .ok (.iadd, 1) := by decide +kernel
theorem dX8_becomesHow_107 : decode cX8_becomesHow 107 = .ok (.dup2, 1) := by decide +kernel
theorem dX8_becomesHow_108 : decode cX8_becomesHow 108 = .ok (.iaload, 1) := by decide +kernel
theorem dX8_becomesHow_109 : decode cX8_becomesHow 109 = .ok (.aload_n 0, 1) := by decide +kernel
theorem dX8_becomesHow_110 : decode cX8_becomesHow 110 = .ok (.getfield 7, 3) := by decide +kernel
theorem dX8_becomesHow_113 : decode cX8_becomesHow 113 = .ok (.iload_n 3, 1) := by decide +kernel
theorem dX8_becomesHow_114 : decode cX8_becomesHow 114 = .ok (.bipush 14, 2) := by decide +kernel
theorem dX8_becomesHow_116 : decode cX8_becomesHow 116 = .ok (.iadd, 1) := by decide +kernel
theorem dX8_becomesHow_117 : decode cX8_becomesHow 117 = .ok (.iaload, 1) := by decide +kernel
theorem dX8_becomesHow_118 : decode cX8_becomesHow 118 = .ok (.iconst 5, 1) := by decide +kernel
theorem dX8_becomesHow_119 : decode cX8_becomesHow 119 = .ok (.if_icmp .ne 13, 3) := by decide +kernel
theorem dX8_becomesHow_122 : decode cX8_becomesHow 122 = .ok (.iload 4, 2) := by decide +kernel
theorem dX8_becomesHow_124 : decode cX8_becomesHow 124 = .ok (.iconst 5, 1) := by decide +kernel
theorem dX8_becomesHow_125 : decode cX8_becomesHow 125 = .ok (.if_icmp .eq 7, 3) := by decide +kernel
theorem dX8_becomesHow_128 : decode cX8_becomesHow 128 = .ok (.iconst 1, 1) := by decide +kernel
theorem dX8_becomesHow_129 : decode cX8_becomesHow 129 = .ok (.goto 4, 3) := by decide +kernel
theorem dX8_becomesHow_132 : decode cX8_becomesHow 132 = .ok (.iconst 0, 1) := by decide +kernel
theorem dX8_becomesHow_133 : decode cX8_becomesHow 133 = .ok (.iadd, 1) := by decide +kernel
theorem dX8_becomesHow_134 : decode cX8_becomesHow 134 = .ok (.iastore, 1) := by decide +kernel
theorem dX8_becomesHow_135 : decode cX8_becomesHow 135 = .ok (.iinc 2 1, 3) := by decide +kernel
theorem dX8_becomesHow_138 : decode cX8_becomesHow 138 = .ok (.goto (-131), 3) := by decide +kernel
theorem dX8_becomesHow_141 : decode cX8_becomesHow 141 = .ok (.return_, 1) := by decide +kernel
set_option maxRecDepth 20000 in
theorem ggX8_sends_X8_place : GoodIn wsX8_sends wsX8_place := goodIn_r _ [5] (by decide +kernel) (by decide +kernel)
set_option maxRecDepth 20000 in
theorem gX8_sends_X8_place : GoodIn wsX8_sends (va_wsS RX8 92 yX8_place wsX8_place) := goodIn_app (goodIn_of _ (by decide +kernel)) ggX8_sends_X8_place
theorem dX8_sends_0 : decode cX8_sends 0 = .ok (.iload_n 1, 1) := by decide +kernel
theorem dX8_sends_1 : decode cX8_sends 1 = .ok (.iload_n 2, 1) := by decide +kernel
theorem dX8_sends_2 : decode cX8_sends 2 = .ok (.invokestatic 92, 3) := by decide +kernel
theorem dX8_sends_5 : decode cX8_sends 5 = .ok (.istore_n 3, 1) := by decide +kernel
theorem dX8_sends_6 : decode cX8_sends 6 = .ok (.aload_n 0, 1) := by decide +kernel
theorem dX8_sends_7 : decode cX8_sends 7 = .ok (.getfield 7, 3) := by decide +kernel
theorem dX8_sends_10 : decode cX8_sends 10 = .ok (.iload_n 3, 1) := by decide +kernel
theorem dX8_sends_11 : decode cX8_sends 11 = .ok (.iconst 3, 1) := by decide +kernel
theorem dX8_sends_12 : decode cX8_sends 12 = .ok (.iadd, 1) := by decide +kernel
theorem dX8_sends_13 : decode cX8_sends 13 = .ok (.aload_n 0, 1) := by decide +kernel
theorem dX8_sends_14 : decode cX8_sends 14 = .ok (.getfield 7, 3) := by decide +kernel
theorem dX8_sends_17 : decode cX8_sends 17 = .ok (.iconst 4, 1) := by decide +kernel
theorem dX8_sends_18 : decode cX8_sends 18 = .ok (.iload_n 2, 1) := by decide +kernel
theorem dX8_sends_19 : decode cX8_sends 19 = .ok (.iadd, 1) := by decide +kernel
theorem dX8_sends_20 : decode cX8_sends 20 = .ok (.iaload, 1) := by decide +kernel
theorem dX8_sends_21 : decode cX8_sends 21 = .ok (.iconst 1, 1) := by decide +kernel
theorem dX8_sends_22 : decode cX8_sends 22 = .ok (.if_icmp .ne 18, 3) := by decide +kernel
theorem dX8_sends_25 : decode cX8_sends 25 = .ok (.aload_n 0, 1) := by decide +kernel
theorem dX8_sends_26 : decode cX8_sends 26 = .ok (.getfield 7, 3) := by decide +kernel
theorem dX8_sends_29 : decode cX8_sends 29 = .ok (.iload_n 3, 1) := by decide +kernel
theorem dX8_sends_30 : decode cX8_sends 30 = .ok (.iconst 2, 1) := by decide +kernel
theorem dX8_sends_31 : decode cX8_sends 31 = .ok (.iadd, 1) := by decide +kernel
theorem dX8_sends_32 : decode cX8_sends 32 = .ok (.iaload, 1) := by decide +kernel
theorem dX8_sends_33 : decode cX8_sends 33 = .ok (.ifCond .ne 7, 3) := by decide +kernel
theorem dX8_sends_36 : decode cX8_sends 36 = .ok (.iconst 1, 1) := by decide +kernel
theorem dX8_sends_37 : decode cX8_sends 37 = .ok (.goto 4, 3) := by decide +kernel
theorem dX8_sends_40 : decode cX8_sends 40 = .ok (.iconst 0, 1) := by decide +kernel
theorem dX8_sends_41 : decode cX8_sends 41 = .ok (.iastore, 1) := by decide +kernel
theorem dX8_sends_42 : decode cX8_sends 42 = .ok (.aload_n 0, 1) := by decide +kernel
theorem dX8_sends_43 : decode cX8_sends 43 = .ok (.getfield 7, 3) := by decide +kernel
theorem dX8_sends_46 : decode cX8_sends 46 = .ok (.iload_n 3, 1) := by decide +kernel
theorem dX8_sends_47 : decode cX8_sends 47 = .ok (.iconst 4, 1) := by decide +kernel
theorem dX8_sends_48 : decode cX8_sends 48 = .ok (.iadd, 1) := by decide +kernel
theorem dX8_sends_49 : decode cX8_sends 49 = .ok (.aload_n 0, 1) := by decide +kernel
theorem dX8_sends_50 : decode cX8_sends 50 = .ok (.getfield 7, 3) := by decide +kernel
theorem dX8_sends_53 : decode cX8_sends 53 = .ok (.iload_n 3, 1) := by decide +kernel
theorem dX8_sends_54 : decode cX8_sends 54 = .ok (.iconst 0, 1) := by decide +kernel
theorem dX8_sends_55 : decode cX8_sends 55 = .ok (.iadd, 1) := by decide +kernel
theorem dX8_sends_56 : decode cX8_sends 56 = .ok (.iaload, 1) := by decide +kernel
theorem dX8_sends_57 : decode cX8_sends 57 = .ok (.iastore, 1) := by decide +kernel
theorem dX8_sends_58 : decode cX8_sends 58 = .ok (.aload_n 0, 1) := by decide +kernel
theorem dX8_sends_59 : decode cX8_sends 59 = .ok (.getfield 7, 3) := by decide +kernel
theorem dX8_sends_62 : decode cX8_sends 62 = .ok (.iload_n 3, 1) := by decide +kernel
theorem dX8_sends_63 : decode cX8_sends 63 = .ok (.iconst 5, 1) := by decide +kernel
theorem dX8_sends_64 : decode cX8_sends 64 = .ok (.iadd, 1) := by decide +kernel
theorem dX8_sends_65 : decode cX8_sends 65 = .ok (.aload_n 0, 1) := by decide +kernel
theorem dX8_sends_66 : decode cX8_sends 66 = .ok (.getfield 7, 3) := by decide +kernel
theorem dX8_sends_69 : decode cX8_sends 69 = .ok (.iload_n 3, 1) := by decide +kernel
theorem dX8_sends_70 : decode cX8_sends 70 = .ok (.iconst 1, 1) := by decide +kernel
theorem dX8_sends_71 : decode cX8_sends 71 = .ok (.iadd, 1) := by decide +kernel
theorem dX8_sends_72 : decode cX8_sends 72 = .ok (.iaload, 1) := by decide +kernel
theorem dX8_sends_73 : decode cX8_sends 73 = .ok (.iastore, 1) := by decide +kernel
theorem dX8_sends_74 : decode cX8_sends 74 = .ok (.aload_n 0, 1) := by decide +kernel
theorem dX8_sends_75 : decode cX8_sends 75 = .ok (.getfield 7, 3) := by decide +kernel
theorem dX8_sends_78 : decode cX8_sends 78 = .ok (.iload_n 3, 1) := by decide +kernel
theorem dX8_sends_79 : decode cX8_sends 79 = .ok (.bipush 6, 2) := by decide +kernel
theorem dX8_sends_81 : decode cX8_sends 81 = .ok (.iadd, 1) := by decide +kernel
theorem dX8_sends_82 : decode cX8_sends 82 = .ok (.aload_n 0, 1) := by decide +kernel
theorem dX8_sends_83 : decode cX8_sends 83 = .ok (.getfield 7, 3) := by decide +kernel
theorem dX8_sends_86 : decode cX8_sends 86 = .ok (.iconst 0, 1) := by decide +kernel
theorem dX8_sends_87 : decode cX8_sends 87 = .ok (.iload_n 1, 1) := by decide +kernel
theorem dX8_sends_88 : decode cX8_sends 88 = .ok (.iadd, 1) := by decide +kernel
theorem dX8_sends_89 : decode cX8_sends 89 = .ok (.iaload, 1) := by decide +kernel
theorem dX8_sends_90 : decode cX8_sends 90 = .ok (.iastore, 1) := by decide +kernel
theorem dX8_sends_91 : decode cX8_sends 91 = .ok (.aload_n 0, 1) := by decide +kernel
theorem dX8_sends_92 : decode cX8_sends 92 = .ok (.getfield 7, 3) := by decide +kernel
theorem dX8_sends_95 : decode cX8_sends 95 = .ok (.iload_n 3, 1) := by decide +kernel
theorem dX8_sends_96 : decode cX8_sends 96 = .ok (.bipush 7, 2) := by decide +kernel
theorem dX8_sends_98 : decode cX8_sends 98 = .ok (.iadd, 1) := by decide +kernel
theorem dX8_sends_99 : decode cX8_sends 99 = .ok (.aload_n 0, 1) := by decide +kernel
theorem dX8_sends_100 : decode cX8_sends 100 = .ok (.getfield 7, 3) := by decide +kernel
theorem dX8_sends_103 : decode cX8_sends 103 = .ok (.iload_n 3, 1) := by decide +kernel
theorem dX8_sends_104 : decode cX8_sends 104 = .ok (.bipush 14, 2) := by decide +kernel
theorem dX8_sends_106 : decode cX8_sends 106 = .ok (.iadd, 1) := by decide +kernel
theorem dX8_sends_107 : decode cX8_sends 107 = .ok (.iaload, 1) := by decide +kernel
theorem dX8_sends_108 : decode cX8_sends 108 = .ok (.iconst 4, 1) := by decide +kernel
theorem dX8_sends_109 : decode cX8_sends 109 = .ok (.if_icmp .lt 7, 3) := by decide +kernel
theorem dX8_sends_112 : decode cX8_sends 112 = .ok (.iconst 1, 1) := by decide +kernel
theorem dX8_sends_113 : decode cX8_sends 113 = .ok (.goto 4, 3) := by decide +kernel
theorem dX8_sends_116 : decode cX8_sends 116 = .ok (.iconst 0, 1) := by decide +kernel
theorem dX8_sends_117 : decode cX8_sends 117 = .ok (.iastore, 1) := by decide +kernel
theorem dX8_sends_118 : decode cX8_sends 118 = .ok (.return_, 1) := by decide +kernel
set_option maxRecDepth 20000 in
theorem ggX8_isSending_X8_place : GoodIn wsX8_isSending wsX8_place := goodIn_r _ [5] (by decide +kernel) (by decide +kernel)
set_option maxRecDepth 20000 in
theorem gX8_isSending_X8_place : GoodIn wsX8_isSending (va_wsS RX8 92 yX8_place wsX8_place) := goodIn_app (goodIn_of _ (by decide +kernel)) ggX8_isSending_X8_place
theorem dX8_isSending_0 : decode cX8_isSending 0 = .ok (.aload_n 0, 1) := by decide +kernel
theorem dX8_isSending_1 : decode cX8_isSending 1 = .ok (.getfield 7, 3) := by decide +kernel
theorem dX8_isSending_4 : decode cX8_isSending 4 = .ok (.iload_n 1, 1) := by decide +kernel
theorem dX8_isSending_5 : decode cX8_isSending 5 = .ok (.iload_n 2, 1) := by decide +kernel
theorem dX8_isSending_6 : decode cX8_isSending 6 = .ok (.invokestatic 92, 3) := by decide +kernel
theorem dX8_isSending_9 : decode cX8_isSending 9 = .ok (.bipush 14, 2) := by decide +kernel
theorem dX8_isSending_11 : decode cX8_isSending 11 = .ok (.iadd, 1) := by decide +kernel
theorem dX8_isSending_12 : decode cX8_isSending 12 = .ok (.iaload, 1) := by decide +kernel
theorem dX8_isSending_13 : decode cX8_isSending 13 = .ok (.iconst 5, 1) := by decide +kernel
theorem dX8_isSending_14 : decode cX8_isSending 14 = .ok (.if_icmp .ne 7, 3) := by decide +kernel
theorem dX8_isSending_17 : decode cX8_isSending 17 = .ok (.iconst 1, 1) := by decide +kernel
theorem dX8_isSending_18 : decode cX8_isSending 18 = .ok (.goto 4, 3) := by decide +kernel
theorem dX8_isSending_21 : decode cX8_isSending 21 = .ok (.iconst 0, 1) := by decide +kernel
theorem dX8_isSending_22 : decode cX8_isSending 22 = .ok (.ireturn, 1) := by decide +kernel
set_option maxRecDepth 20000 in
theorem ggX8_wants_X8_isSending : GoodIn wsX8_wants wsX8_isSending := goodIn_r _ [6, 7, 8, 9, 5, 10, 11, 12, 13, 14, 15, 16, 17, 18, 19, 20, 21, 22, 23, 24, 25, 26, 27, 28] (by decide +kernel) (by decide +kernel)
set_option maxRecDepth 20000 in
theorem gX8_wants_X8_isSending : GoodIn wsX8_wants (wsV RX8 138 RX8 yX8_isSending wsX8_isSending) := goodIn_app (goodIn_of _ (by decide +kernel)) ggX8_wants_X8_isSending
theorem dX8_wants_0 : decode cX8_wants 0 = .ok (.iconst 0, 1) := by decide +kernel
theorem dX8_wants_1 : decode cX8_wants 1 = .ok (.istore_n 3, 1) := by decide +kernel
theorem dX8_wants_2 : decode cX8_wants 2 = .ok (.iconst 0, 1) := by decide +kernel
theorem dX8_wants_3 : decode cX8_wants 3 = .ok (.istore 4, 2) := by decide +kernel
theorem dX8_wants_5 : decode cX8_wants 5 = .ok (.iload 4, 2) := by decide +kernel
theorem dX8_wants_7 : decode cX8_wants 7 = .ok (.aload_n 0, 1) := by decide +kernel
theorem dX8_wants_8 : decode cX8_wants 8 = .ok (.getfield 83, 3) := by decide +kernel
theorem dX8_wants_11 : decode cX8_wants 11 = .ok (.if_icmp .ge 27, 3) := by decide +kernel
theorem dX8_wants_14 : decode cX8_wants 14 = .ok (.iload_n 3, 1) := by decide +kernel
theorem dX8_wants_15 : decode cX8_wants 15 = .ok (.aload_n 0, 1) := by decide +kernel
theorem dX8_wants_16 : decode cX8_wants 16 = .ok (.iload_n 1, 1) := by decide +kernel
theorem dX8_wants_17 : decode cX8_wants 17 = .ok (.iload 4, 2) := by decide +kernel
theorem dX8_wants_19 : decode cX8_wants 19 = .ok (.invokevirtual 138, 3) := by decide +kernel
theorem dX8_wants_22 : decode cX8_wants 22 = .ok (.ifCond .eq 7, 3) := by decide +kernel
theorem dX8_wants_25 : decode cX8_wants 25 = .ok (.iconst 1, 1) := by decide +kernel
theorem dX8_wants_26 : decode cX8_wants 26 = .ok (.goto 4, 3) := by decide +kernel
theorem dX8_wants_29 : decode cX8_wants 29 = .ok (.iconst 0, 1) := by decide +kernel
theorem dX8_wants_30 : decode cX8_wants 30 = .ok (.iadd, 1) := by decide +kernel
theorem dX8_wants_31 : decode cX8_wants 31 = .ok (.istore_n 3, 1) := by decide +kernel
theorem dX8_wants_32 : decode cX8_wants 32 = .ok (.iinc 4 1, 3) := by decide +kernel
theorem dX8_wants_35 : decode cX8_wants 35 = .ok (.goto (-30), 3) := by decide +kernel
theorem dX8_wants_38 : decode cX8_wants 38 = .ok (.iload_n 3, 1) := by decide +kernel
theorem dX8_wants_39 : decode cX8_wants 39 = .ok (.ifCond .ne 7, 3) := by decide +kernel
theorem dX8_wants_42 : decode cX8_wants 42 = .ok (.iconst 0, 1) := by decide +kernel
theorem dX8_wants_43 : decode cX8_wants 43 = .ok (.goto 11, 3) := by decide +kernel
theorem dX8_wants_46 : decode cX8_wants 46 = .ok (.bipush 7, 2) := by decide +kernel
theorem dX8_wants_48 : decode cX8_wants 48 = .ok (.iload_n 2, 1) := by decide +kernel
theorem dX8_wants_49 : decode cX8_wants 49 = .ok (.imul, 1) := by decide +kernel
theorem dX8_wants_50 : decode cX8_wants 50 = .ok (.iconst 3, 1) := by decide +kernel
theorem dX8_wants_51 : decode cX8_wants 51 = .ok (.iadd, 1) := by decide +kernel
theorem dX8_wants_52 : decode cX8_wants 52 = .ok (.iload_n 3, 1) := by decide +kernel
theorem dX8_wants_53 : decode cX8_wants 53 = .ok (.irem, 1) := by decide +kernel
theorem dX8_wants_54 : decode cX8_wants 54 = .ok (.istore 4, 2) := by decide +kernel
theorem dX8_wants_56 : decode cX8_wants 56 = .ok (.iconst 0, 1) := by decide +kernel
theorem dX8_wants_57 : decode cX8_wants 57 = .ok (.istore 5, 2) := by decide +kernel
theorem dX8_wants_59 : decode cX8_wants 59 = .ok (.iload 5, 2) := by decide +kernel
