theorem dX6_isItem_0 : decode cX6_isItem 0 = .ok (.aload_n 0, 1) := by decide +kernel
theorem dX6_isItem_1 : decode cX6_isItem 1 = .ok (.iload_n 1, 1) := by decide +kernel
theorem dX6_isItem_2 : decode cX6_isItem 2 = .ok (.invokevirtual 30, 3) := by decide +kernel
theorem dX6_isItem_5 : decode cX6_isItem 5 = .ok (.istore_n 2, 1) := by decide +kernel
theorem dX6_isItem_6 : decode cX6_isItem 6 = .ok (.iconst 0, 1) := by decide +kernel
theorem dX6_isItem_7 : decode cX6_isItem 7 = .ok (.istore_n 3, 1) := by decide +kernel
theorem dX6_isItem_8 : decode cX6_isItem 8 = .ok (.iload_n 3, 1) := by decide +kernel
theorem dX6_isItem_9 : decode cX6_isItem 9 = .ok (.iload_n 2, 1) := by decide +kernel
theorem dX6_isItem_10 : decode cX6_isItem 10 = .ok (.if_icmp .ge 55, 3) := by decide +kernel
theorem dX6_isItem_13 : decode cX6_isItem 13 = .ok (.aload_n 0, 1) := by decide +kernel
theorem dX6_isItem_14 : decode cX6_isItem 14 = .ok (.iload_n 1, 1) := by decide +kernel
theorem dX6_isItem_15 : decode cX6_isItem 15 = .ok (.iconst 2, 1) := by decide +kernel
theorem dX6_isItem_16 : decode cX6_isItem 16 = .ok (.iload_n 3, 1) := by decide +kernel
theorem dX6_isItem_17 : decode cX6_isItem 17 = .ok (.imul, 1) := by decide +kernel
theorem dX6_isItem_18 : decode cX6_isItem 18 = .ok (.iadd, 1) := by decide +kernel
theorem dX6_isItem_19 : decode cX6_isItem 19 = .ok (.iconst 2, 1) := by decide +kernel
theorem dX6_isItem_20 : decode cX6_isItem 20 = .ok (.iadd, 1) := by decide +kernel
theorem dX6_isItem_21 : decode cX6_isItem 21 = .ok (.invokevirtual 19, 3) := by decide +kernel
theorem dX6_isItem_24 : decode cX6_isItem 24 = .ok (.istore 4, 2) := by decide +kernel
theorem dX6_isItem_26 : decode cX6_isItem 26 = .ok (.aload_n 0, 1) := by decide +kernel
theorem dX6_isItem_27 : decode cX6_isItem 27 = .ok (.iload_n 1, 1) := by decide +kernel
theorem dX6_isItem_28 : decode cX6_isItem 28 = .ok (.iload_n 3, 1) := by decide +kernel
theorem dX6_isItem_29 : decode cX6_isItem 29 = .ok (.invokevirtual 33, 3) := by decide +kernel
theorem dX6_isItem_32 : decode cX6_isItem 32 = .ok (.invokestatic 37, 3) := by decide +kernel
theorem dX6_isItem_35 : decode cX6_isItem 35 = .ok (.ifCond .eq 22, 3) := by decide +kernel
theorem dX6_isItem_38 : decode cX6_isItem 38 = .ok (.iload 4, 2) := by decide +kernel
theorem dX6_isItem_40 : decode cX6_isItem 40 = .ok (.iload_n 3, 1) := by decide +kernel
theorem dX6_isItem_41 : decode cX6_isItem 41 = .ok (.iconst 1, 1) := by decide +kernel
theorem dX6_isItem_42 : decode cX6_isItem 42 = .ok (.iadd, 1) := by decide +kernel
theorem dX6_isItem_43 : decode cX6_isItem 43 = .ok (.iload_n 2, 1) := by decide +kernel
theorem dX6_isItem_44 : decode cX6_isItem 44 = .ok (.if_icmp .ge 8, 3) := by decide +kernel
theorem dX6_isItem_47 : decode cX6_isItem 47 = .ok (.bipush 44, 2) := by decide +kernel
theorem dX6_isItem_49 : decode cX6_isItem 49 = .ok (.goto 5, 3) := by decide +kernel
theorem dX6_isItem_52 : decode cX6_isItem 52 = .ok (.bipush 59, 2) := by decide +kernel
theorem dX6_isItem_54 : decode cX6_isItem 54 = .ok (.if_icmp .eq 5, 3) := by decide +kernel
theorem dX6_isItem_57 : decode cX6_isItem 57 = .ok (.iconst 0, 1) := by decide +kernel
theorem dX6_isItem_58 : decode cX6_isItem 58 = .ok (.ireturn, 1) := by decide +kernel
theorem dX6_isItem_59 : decode cX6_isItem 59 = .ok (.iinc 3 1, 3) := by decide +kernel
theorem dX6_isItem_62 : decode cX6_isItem 62 = .ok (.goto (-54), 3) := by decide +kernel
theorem dX6_isItem_65 : decode cX6_isItem 65 = .ok (.iload_n 2, 1) := by decide +kernel
theorem dX6_isItem_66 : decode cX6_isItem 66 = .ok (.ifCond .le 29, 3) := by decide +kernel
theorem dX6_isItem_69 : decode cX6_isItem 69 = .ok (.aload_n 0, 1) := by decide +kernel
theorem dX6_isItem_70 : decode cX6_isItem 70 = .ok (.iload_n 1, 1) := by decide +kernel
theorem dX6_isItem_71 : decode cX6_isItem 71 = .ok (.invokevirtual 19, 3) := by decide +kernel
theorem dX6_isItem_74 : decode cX6_isItem 74 = .ok (.bipush 109, 2) := by decide +kernel
theorem dX6_isItem_76 : decode cX6_isItem 76 = .ok (.if_icmp .ne 15, 3) := by decide +kernel
theorem dX6_isItem_79 : decode cX6_isItem 79 = .ok (.aload_n 0, 1) := by decide +kernel
theorem dX6_isItem_80 : decode cX6_isItem 80 = .ok (.iload_n 1, 1) := by decide +kernel
theorem dX6_isItem_81 : decode cX6_isItem 81 = .ok (.iconst 0, 1) := by decide +kernel
theorem dX6_isItem_82 : decode cX6_isItem 82 = .ok (.invokevirtual 33, 3) := by decide +kernel
theorem dX6_isItem_85 : decode cX6_isItem 85 = .ok (.invokestatic 40, 3) := by decide +kernel
theorem dX6_isItem_88 : decode cX6_isItem 88 = .ok (.ifCond .eq 7, 3) := by decide +kernel
theorem dX6_isItem_91 : decode cX6_isItem 91 = .ok (.iconst 1, 1) := by decide +kernel
theorem dX6_isItem_92 : decode cX6_isItem 92 = .ok (.goto 4, 3) := by decide +kernel
theorem dX6_isItem_95 : decode cX6_isItem 95 = .ok (.iconst 0, 1) := by decide +kernel
theorem dX6_isItem_96 : decode cX6_isItem 96 = .ok (.ireturn, 1) := by decide +kernel
set_option maxRecDepth 20000 in
theorem ggX6_numbersOfItem_X6_letterAt : GoodIn wsX6_numbersOfItem wsX6_letterAt := goodIn_r _ [5, 6, 7, 8, 9] (by decide +kernel) (by decide +kernel)
set_option maxRecDepth 20000 in
theorem gX6_numbersOfItem_X6_letterAt : GoodIn wsX6_numbersOfItem (wsV RX6 19 RX6 yX6_letterAt wsX6_letterAt) := goodIn_app (goodIn_of _ (by decide +kernel)) ggX6_numbersOfItem_X6_letterAt
theorem dX6_numbersOfItem_0 : decode cX6_numbersOfItem 0 = .ok (.aload_n 0, 1) := by decide +kernel
theorem dX6_numbersOfItem_1 : decode cX6_numbersOfItem 1 = .ok (.iload_n 1, 1) := by decide +kernel
theorem dX6_numbersOfItem_2 : decode cX6_numbersOfItem 2 = .ok (.invokevirtual 19, 3) := by decide +kernel
theorem dX6_numbersOfItem_5 : decode cX6_numbersOfItem 5 = .ok (.lookupswitch 41 #[(108, 35), (109, 39), (120, 37)], 35) := by decide +kernel
theorem dX6_numbersOfItem_40 : decode cX6_numbersOfItem 40 = .ok (.iconst 4, 1) := by decide +kernel
theorem dX6_numbersOfItem_41 : decode cX6_numbersOfItem 41 = .ok (.ireturn, 1) := by decide +kernel
theorem dX6_numbersOfItem_42 : decode cX6_numbersOfItem 42 = .ok (.iconst 2, 1) := by decide +kernel
theorem dX6_numbersOfItem_43 : decode cX6_numbersOfItem 43 = .ok (.ireturn, 1) := by decide +kernel
theorem dX6_numbersOfItem_44 : decode cX6_numbersOfItem 44 = .ok (.iconst 3, 1) := by decide +kernel
theorem dX6_numbersOfItem_45 : decode cX6_numbersOfItem 45 = .ok (.ireturn, 1) := by decide +kernel
theorem dX6_numbersOfItem_46 : decode cX6_numbersOfItem 46 = .ok (.iconst 0, 1) := by decide +kernel
theorem dX6_numbersOfItem_47 : decode cX6_numbersOfItem 47 = .ok (.ireturn, 1) := by decide +kernel
set_option maxRecDepth 20000 in
theorem ggX6_lengthOfItem_X6_numbersOfItem : GoodIn wsX6_lengthOfItem wsX6_numbersOfItem := goodIn_r _ [5, 6, 7, 8, 4, 9, 10, 11, 12, 13] (by decide +kernel) (by decide +kernel)
set_option maxRecDepth 20000 in
theorem gX6_lengthOfItem_X6_numbersOfItem : GoodIn wsX6_lengthOfItem (wsV RX6 30 RX6 yX6_numbersOfItem wsX6_numbersOfItem) := goodIn_app (goodIn_of _ (by decide +kernel)) ggX6_lengthOfItem_X6_numbersOfItem
theorem dX6_lengthOfItem_0 : decode cX6_lengthOfItem 0 = .ok (.iconst 1, 1) := by decide +kernel
theorem dX6_lengthOfItem_1 : decode cX6_lengthOfItem 1 = .ok (.iconst 2, 1) := by decide +kernel
theorem dX6_lengthOfItem_2 : decode cX6_lengthOfItem 2 = .ok (.aload_n 0, 1) := by decide +kernel
theorem dX6_lengthOfItem_3 : decode cX6_lengthOfItem 3 = .ok (.iload_n 1, 1) := by decide +kernel
theorem dX6_lengthOfItem_4 : decode cX6_lengthOfItem 4 = .ok (.invokevirtual 30, 3) := by decide +kernel
theorem dX6_lengthOfItem_7 : decode cX6_lengthOfItem 7 = .ok (.imul, 1) := by decide +kernel
theorem dX6_lengthOfItem_8 : decode cX6_lengthOfItem 8 = .ok (.iadd, 1) := by decide +kernel
theorem dX6_lengthOfItem_9 : decode cX6_lengthOfItem 9 = .ok (.ireturn, 1) := by decide +kernel
set_option maxRecDepth 20000 in
theorem ggX6_number_X6_letterAt : GoodIn wsX6_number wsX6_letterAt := goodIn_r _ [5, 6, 7, 8, 9] (by decide +kernel) (by decide +kernel)
set_option maxRecDepth 20000 in
theorem gX6_number_X6_letterAt : GoodIn wsX6_number (wsV RX6 19 RX6 yX6_letterAt wsX6_letterAt) := goodIn_app (goodIn_of _ (by decide +kernel)) ggX6_number_X6_letterAt
theorem dX6_number_0 : decode cX6_number 0 = .ok (.aload_n 0, 1) := by decide +kernel
theorem dX6_number_1 : decode cX6_number 1 = .ok (.iload_n 1, 1) := by decide +kernel
theorem dX6_number_2 : decode cX6_number 2 = .ok (.iconst 2, 1) := by decide +kernel
theorem dX6_number_3 : decode cX6_number 3 = .ok (.iload_n 2, 1) := by decide +kernel
theorem dX6_number_4 : decode cX6_number 4 = .ok (.imul, 1) := by decide +kernel
theorem dX6_number_5 : decode cX6_number 5 = .ok (.iadd, 1) := by decide +kernel
theorem dX6_number_6 : decode cX6_number 6 = .ok (.iconst 1, 1) := by decide +kernel
theorem dX6_number_7 : decode cX6_number 7 = .ok (.iadd, 1) := by decide +kernel
theorem dX6_number_8 : decode cX6_number 8 = .ok (.invokevirtual 19, 3) := by decide +kernel
theorem dX6_number_11 : decode cX6_number 11 = .ok (.bipush 48, 2) := by decide +kernel
theorem dX6_number_13 : decode cX6_number 13 = .ok (.isub, 1) := by decide +kernel
theorem dX6_number_14 : decode cX6_number 14 = .ok (.ireturn, 1) := by decide +kernel
set_option maxRecDepth 20000 in
theorem ggX7_init_X6_init : GoodIn wsX7_init wsX6_init := goodIn_r _ [21, 22, 2, 3, 16, 23, 204, 205] (by decide +kernel) (by decide +kernel)
set_option maxRecDepth 20000 in
theorem gX7_init_X6_init_n9 : GoodIn wsX7_init (wsX6_init) := ggX7_init_X6_init
set_option maxRecDepth 20000 in
theorem ggX7_init_X4_init : GoodIn wsX7_init wsX4_init := goodIn_r _ [25, 26, 2, 3, 27, 28, 29, 30, 31, 32, 33, 34, 35, 36, 37, 38, 39, 40, 41, 42, 43, 44, 45, 46, 47, 48, 49, 50, 51, 52, 53, 54, 55, 56, 57, 58, 222, 223, 224, 225, 212, 213, 214, 215, 216, 217, 218, 226, 227, 228, 229, 230, 231, 232, 233, 234, 235, 236, 237, 238, 239, 240, 241, 242, 243] (by decide +kernel) (by decide +kernel)
set_option maxRecDepth 20000 in
theorem gX7_init_X4_init_n18 : GoodIn wsX7_init (wsX4_init) := ggX7_init_X4_init
set_option maxRecDepth 20000 in
theorem ggX7_init_X2_init : GoodIn wsX7_init wsX2_init := goodIn_r _ [61, 62, 2, 3, 63, 64, 9, 10, 24, 25, 26, 27, 28, 29, 30, 31, 32, 33, 34, 35, 36, 37, 38, 39, 40, 41, 42, 43, 44, 45, 46, 47, 48, 49, 50, 51, 52, 53, 54, 55, 56, 57, 58, 219, 220, 221, 212, 213, 214, 215, 216, 217, 218, 222, 223, 224, 225, 226, 227, 228, 229, 230, 231, 232, 233, 234, 235, 236, 237, 238, 239, 240, 241, 242, 243] (by decide +kernel) (by decide +kernel)
set_option maxRecDepth 20000 in
theorem gX7_init_X2_init : GoodIn wsX7_init (wsX2_init) := ggX7_init_X2_init
set_option maxRecDepth 20000 in
theorem ggX7_init_J0_length_8abf5 : GoodIn wsX7_init wsJ0_length_8abf5 := goodIn_r _ [69, 70, 71, 72, 73, 68, 74, 75, 76] (by decide +kernel) (by decide +kernel)
set_option maxRecDepth 20000 in
theorem gX7_init_J0_length_8abf5 : GoodIn wsX7_init (wsV RX7 42 RJ0 yJ0_length_8abf5 wsJ0_length_8abf5) := goodIn_app (goodIn_of _ (by decide +kernel)) ggX7_init_J0_length_8abf5
set_option maxRecDepth 20000 in
theorem ggX7_init_J0_charAt_5068e : GoodIn wsX7_init wsJ0_charAt_5068e := goodIn_r _ [80, 70, 81, 82, 83, 68, 84, 75, 76, 85, 86, 87, 88, 89, 90, 91, 92, 93, 94, 95, 96, 97, 98, 99, 100, 101, 102, 103, 104, 105, 106, 107, 108, 109, 110, 111, 112, 113] (by decide +kernel) (by decide +kernel)
set_option maxRecDepth 20000 in
theorem gX7_init_J0_charAt_5068e : GoodIn wsX7_init (wsV RX7 48 RJ0 yJ0_charAt_5068e wsJ0_charAt_5068e) := goodIn_app (goodIn_of _ (by decide +kernel)) ggX7_init_J0_charAt_5068e
set_option maxRecDepth 20000 in
theorem ggX7_init_X6_add : GoodIn wsX7_init wsX6_add := goodIn_r _ [117, 118, 23, 204, 205] (by decide +kernel) (by decide +kernel)
set_option maxRecDepth 20000 in
theorem gX7_init_X6_add : GoodIn wsX7_init (wsV RX7 52 RX6 yX6_add wsX6_add) := goodIn_app (goodIn_of _ (by decide +kernel)) ggX7_init_X6_add
set_option maxRecDepth 20000 in
theorem ggX7_init_X4_layOut : GoodIn wsX7_init wsX4_layOut := goodIn_r _ [122, 123, 124, 125, 126, 10, 127, 30, 31, 128, 129, 130, 131, 132, 133, 134, 135, 29, 136, 137, 38, 42, 138, 139, 140, 40, 141, 142, 143, 144, 145, 51, 52, 146, 147, 148, 149, 150, 151, 152, 153, 50, 154, 155, 156, 157, 158, 159, 160, 161, 162, 44, 163, 164, 165, 166, 167, 168, 169, 170, 171, 172, 173, 6, 174, 118, 23, 175, 176, 177, 178, 179, 180, 181, 182, 183, 184, 185, 186, 187, 188, 189, 190, 191, 192, 193, 194, 195, 196, 197, 198, 199, 204, 205, 212, 213, 214, 215, 216, 217, 218, 222, 223, 224, 225, 226, 227, 228, 229, 230, 231, 232, 233, 234, 235, 236, 239, 240, 241, 242, 243, 237, 238] (by decide +kernel) (by decide +kernel)
set_option maxRecDepth 20000 in
theorem gX7_init_X4_layOut : GoodIn wsX7_init (wsV RX7 56 RX4 yX4_layOut wsX4_layOut) := goodIn_app (goodIn_of _ (by decide +kernel)) ggX7_init_X4_layOut
set_option maxRecDepth 20000 in
theorem ggX7_init_X6_clear : GoodIn wsX7_init wsX6_clear := goodIn_r _ [203, 118, 204, 205] (by decide +kernel) (by decide +kernel)
set_option maxRecDepth 20000 in
theorem gX7_init_X6_clear : GoodIn wsX7_init (wsV RX7 60 RX6 yX6_clear wsX6_clear) := goodIn_app (goodIn_of _ (by decide +kernel)) ggX7_init_X6_clear
theorem dX7_init_0 : decode cX7_init 0 = .ok (.aload_n 0, 1) := by decide +kernel
theorem dX7_init_1 : decode cX7_init 1 = .ok (.invokespecial 1, 3) := by decide +kernel
theorem dX7_init_4 : decode cX7_init 4 = .ok (.aload_n 0, 1) := by decide +kernel
theorem dX7_init_5 : decode cX7_init 5 = .ok (.new 7, 3) := by decide +kernel
theorem dX7_init_8 : decode cX7_init 8 = .ok (.dup, 1) := by decide +kernel
theorem dX7_init_9 : decode cX7_init 9 = .ok (.invokespecial 9, 3) := by decide +kernel
theorem dX7_init_12 : decode cX7_init 12 = .ok (.putfield 10, 3) := by decide +kernel
theorem dX7_init_15 : decode cX7_init 15 = .ok (.aload_n 0, 1) := by decide +kernel
theorem dX7_init_16 : decode cX7_init 16 = .ok (.new 16, 3) := by decide +kernel
theorem dX7_init_19 : decode cX7_init 19 = .ok (.dup, 1) := by decide +kernel
theorem dX7_init_20 : decode cX7_init 20 = .ok (.invokespecial 18, 3) := by decide +kernel
theorem dX7_init_23 : decode cX7_init 23 = .ok (.putfield 19, 3) := by decide +kernel
theorem dX7_init_26 : decode cX7_init 26 = .ok (.aload_n 0, 1) := by decide +kernel
theorem dX7_init_27 : decode cX7_init 27 = .ok (.new 23, 3) := by decide +kernel
theorem dX7_init_30 : decode cX7_init 30 = .ok (.dup, 1) := by decide +kernel
theorem dX7_init_31 : decode cX7_init 31 = .ok (.invokespecial 25, 3) := by decide +kernel
theorem dX7_init_34 : decode cX7_init 34 = .ok (.putfield 26, 3) := by decide +kernel
theorem dX7_init_37 : decode cX7_init 37 = .ok (.aload_n 0, 1) := by decide +kernel
theorem dX7_init_38 : decode cX7_init 38 = .ok (.bipush 12, 2) := by decide +kernel
theorem dX7_init_40 : decode cX7_init 40 = .ok (.newarray .int, 2) := by decide +kernel
theorem dX7_init_42 : decode cX7_init 42 = .ok (.putfield 30, 3) := by decide +kernel
theorem dX7_init_45 : decode cX7_init 45 = .ok (.aload_n 0, 1) := by decide +kernel
theorem dX7_init_46 : decode cX7_init 46 = .ok (.new 16, 3) := by decide +kernel
theorem dX7_init_49 : decode cX7_init 49 = .ok (.dup, 1) := by decide +kernel
theorem dX7_init_50 : decode cX7_init 50 = .ok (.invokespecial 18, 3) := by decide +kernel
theorem dX7_init_53 : decode cX7_init 53 = .ok (.putfield 34, 3) := by decide +kernel
theorem dX7_init_56 : decode cX7_init 56 = .ok (.aload_n 0, 1) := by decide +kernel
theorem dX7_init_57 : decode cX7_init 57 = .ok (.new 16, 3) := by decide +kernel
theorem dX7_init_60 : decode cX7_init 60 = .ok (.dup, 1) := by decide +kernel
theorem dX7_init_61 : decode cX7_init 61 = .ok (.invokespecial 18, 3) := by decide +kernel
theorem dX7_init_64 : decode cX7_init 64 = .ok (.putfield 37, 3) := by decide +kernel
theorem dX7_init_67 : decode cX7_init 67 = .ok (.iconst 0, 1) := by decide +kernel
theorem dX7_init_68 : decode cX7_init 68 = .ok (.istore_n 1, 1) := by decide +kernel
theorem dX7_init_69 : decode cX7_init 69 = .ok (.iload_n 1, 1) := by decide +kernel
theorem dX7_init_70 : decode cX7_init 70 = .ok (.ldc 40, 2) := by decide +kernel
theorem dX7_init_72 : decode cX7_init 72 = .ok (.invokevirtual 42, 3) := by decide +kernel
theorem dX7_init_75 : decode cX7_init 75 = .ok (.if_icmp .ge 23, 3) := by decide +kernel
theorem dX7_init_78 : decode cX7_init 78 = .ok (.aload_n 0, 1) := by decide +kernel
theorem dX7_init_79 : decode cX7_init 79 = .ok (.getfield 10, 3) := by decide +kernel
theorem dX7_init_82 : decode cX7_init 82 = .ok (.ldc 40, 2) := by decide +kernel
theorem dX7_init_84 : decode cX7_init 84 = .ok (.iload_n 1, 1) := by decide +kernel
theorem dX7_init_85 : decode cX7_init 85 = .ok (.invokevirtual 48, 3) := by decide +kernel
theorem dX7_init_88 : decode cX7_init 88 = .ok (.invokevirtual 52, 3) := by decide +kernel
theorem dX7_init_91 : decode cX7_init 91 = .ok (.pop, 1) := by decide +kernel
theorem dX7_init_92 : decode cX7_init 92 = .ok (.iinc 1 1, 3) := by decide +kernel
theorem dX7_init_95 : decode cX7_init 95 = .ok (.goto (-26), 3) := by decide +kernel
theorem dX7_init_98 : decode cX7_init 98 = .ok (.aload_n 0, 1) := by decide +kernel
theorem dX7_init_99 : decode cX7_init 99 = .ok (.getfield 19, 3) := by decide +kernel
theorem dX7_init_102 : decode cX7_init 102 = .ok (.aload_n 0, 1) := by decide +kernel
theorem dX7_init_103 : decode cX7_init 103 = .ok (.getfield 10, 3) := by decide +kernel
theorem dX7_init_106 : decode cX7_init 106 = .ok (.invokevirtual 56, 3) := by decide +kernel
theorem dX7_init_109 : decode cX7_init 109 = .ok (.aload_n 0, 1) := by decide +kernel
theorem dX7_init_110 : decode cX7_init 110 = .ok (.getfield 10, 3) := by decide +kernel
theorem dX7_init_113 : decode cX7_init 113 = .ok (.invokevirtual 60, 3) := by decide +kernel
theorem dX7_init_116 : decode cX7_init 116 = .ok (.return_, 1) := by decide +kernel
set_option maxRecDepth 20000 in
theorem ggX7_write_X6_add : GoodIn wsX7_write wsX6_add := goodIn_r _ [7, 8, 9, 16, 17] (by decide +kernel) (by decide +kernel)
set_option maxRecDepth 20000 in
theorem gX7_write_X6_add : GoodIn wsX7_write (wsV RX7 52 RX6 yX6_add wsX6_add) := goodIn_app (goodIn_of _ (by decide +kernel)) ggX7_write_X6_add
theorem dX7_write_0 : decode cX7_write 0 = .ok (.iload_n 1, 1) := by decide +kernel
theorem dX7_write_1 : decode cX7_write 1 = .ok (.bipush 32, 2) := by decide +kernel
theorem dX7_write_3 : decode cX7_write 3 = .ok (.if_icmp .lt 9, 3) := by decide +kernel
theorem dX7_write_6 : decode cX7_write 6 = .ok (.iload_n 1, 1) := by decide +kernel
theorem dX7_write_7 : decode cX7_write 7 = .ok (.bipush 126, 2) := by decide +kernel
theorem dX7_write_9 : decode cX7_write 9 = .ok (.if_icmp .le 5, 3) := by decide +kernel
theorem dX7_write_12 : decode cX7_write 12 = .ok (.iconst (-1), 1) := by decide +kernel
theorem dX7_write_13 : decode cX7_write 13 = .ok (.ireturn, 1) := by decide +kernel
theorem dX7_write_14 : decode cX7_write 14 = .ok (.aload_n 0, 1) := by decide +kernel
theorem dX7_write_15 : decode cX7_write 15 = .ok (.getfield 10, 3) := by decide +kernel
theorem dX7_write_18 : decode cX7_write 18 = .ok (.iload_n 1, 1) := by decide +kernel
theorem dX7_write_19 : decode cX7_write 19 = .ok (.invokevirtual 52, 3) := by decide +kernel
theorem dX7_write_22 : decode cX7_write 22 = .ok (.ifCond .eq 13, 3) := by decide +kernel
theorem dX7_write_25 : decode cX7_write 25 = .ok (.aload_n 0, 1) := by decide +kernel
theorem dX7_write_26 : decode cX7_write 26 = .ok (.getfield 10, 3) := by decide +kernel
theorem dX7_write_29 : decode cX7_write 29 = .ok (.getfield 63, 3) := by decide +kernel
theorem dX7_write_32 : decode cX7_write 32 = .ok (.goto 5, 3) := by decide +kernel
theorem dX7_write_35 : decode cX7_write 35 = .ok (.bipush (-3), 2) := by decide +kernel
theorem dX7_write_37 : decode cX7_write 37 = .ok (.ireturn, 1) := by decide +kernel
set_option maxRecDepth 20000 in
theorem ggX7_wipe_X6_clear : GoodIn wsX7_wipe wsX6_clear := goodIn_r _ [7, 8, 15, 16] (by decide +kernel) (by decide +kernel)
set_option maxRecDepth 20000 in
theorem gX7_wipe_X6_clear : GoodIn wsX7_wipe (wsV RX7 60 RX6 yX6_clear wsX6_clear) := goodIn_app (goodIn_of _ (by decide +kernel)) ggX7_wipe_X6_clear
theorem dX7_wipe_0 : decode cX7_wipe 0 = .ok (.aload_n 0, 1) := by decide +kernel
theorem dX7_wipe_1 : decode cX7_wipe 1 = .ok (.getfield 10, 3) := by decide +kernel
theorem dX7_wipe_4 : decode cX7_wipe 4 = .ok (.getfield 63, 3) := by decide +kernel
theorem dX7_wipe_7 : decode cX7_wipe 7 = .ok (.istore_n 1, 1) := by decide +kernel
theorem dX7_wipe_8 : decode cX7_wipe 8 = .ok (.aload_n 0, 1) := by decide +kernel
theorem dX7_wipe_9 : decode cX7_wipe 9 = .ok (.getfield 10, 3) := by decide +kernel
theorem dX7_wipe_12 : decode cX7_wipe 12 = .ok (.invokevirtual 60, 3) := by decide +kernel
theorem dX7_wipe_15 : decode cX7_wipe 15 = .ok (.iload_n 1, 1) := by decide +kernel
theorem dX7_wipe_16 : decode cX7_wipe 16 = .ok (.ireturn, 1) := by decide +kernel
set_option maxRecDepth 20000 in
theorem ggX7_fault_X6_firstFault : GoodIn wsX7_fault wsX6_firstFault := goodIn_r _ [6, 7, 8, 9, 10, 5, 11, 12, 13, 14, 15, 16, 17, 18, 19, 20, 21, 22, 23, 24, 25, 26, 27, 28, 29, 30, 31, 32, 33, 40, 41] (by decide +kernel) (by decide +kernel)
set_option maxRecDepth 20000 in
theorem gX7_fault_X6_firstFault : GoodIn wsX7_fault (wsV RX7 67 RX6 yX6_firstFault wsX6_firstFault) := goodIn_app (goodIn_of _ (by decide +kernel)) ggX7_fault_X6_firstFault
theorem dX7_fault_0 : decode cX7_fault 0 = .ok (.aload_n 0, 1) := by decide +kernel
theorem dX7_fault_1 : decode cX7_fault 1 = .ok (.getfield 10, 3) := by decide +kernel
theorem dX7_fault_4 : decode cX7_fault 4 = .ok (.invokevirtual 67, 3) := by decide +kernel
theorem dX7_fault_7 : decode cX7_fault 7 = .ok (.ireturn, 1) := by decide +kernel
set_option maxRecDepth 20000 in
theorem ggX7_lay_X6_firstFault : GoodIn wsX7_lay wsX6_firstFault := goodIn_r _ [10, 11, 12, 13, 14, 9, 15, 16, 17, 18, 19, 20, 21, 22, 23, 24, 25, 26, 27, 28, 29, 30, 31, 32, 33, 34, 35, 36, 37, 140, 141] (by decide +kernel) (by decide +kernel)
set_option maxRecDepth 20000 in
theorem gX7_lay_X6_firstFault : GoodIn wsX7_lay (wsV RX7 67 RX6 yX6_firstFault wsX6_firstFault) := goodIn_app (goodIn_of _ (by decide +kernel)) ggX7_lay_X6_firstFault
set_option maxRecDepth 20000 in
theorem ggX7_lay_X6_tellsLink : GoodIn wsX7_lay wsX6_tellsLink := goodIn_r _ [41, 11, 12, 13, 14, 9, 15, 16, 140, 141] (by decide +kernel) (by decide +kernel)
set_option maxRecDepth 20000 in
theorem gX7_lay_X6_tellsLink : GoodIn wsX7_lay (wsV RX7 70 RX6 yX6_tellsLink wsX6_tellsLink) := goodIn_app (goodIn_of _ (by decide +kernel)) ggX7_lay_X6_tellsLink
set_option maxRecDepth 20000 in
theorem ggX7_lay_X4_layOut : GoodIn wsX7_lay wsX4_layOut := goodIn_r _ [46, 47, 48, 49, 50, 45, 51, 52, 53, 54, 55, 56, 57, 58, 59, 60, 61, 62, 63, 64, 65, 66, 67, 68, 69, 70, 71, 72, 73, 74, 75, 76, 77, 78, 79, 80, 81, 82, 83, 84, 85, 86, 87, 88, 89, 90, 91, 92, 93, 94, 95, 96, 97, 98, 99, 100, 101, 102, 103, 104, 105, 13, 14, 9, 15, 11, 16, 106, 107, 108, 109, 110, 111, 112, 113, 114, 26, 27, 28, 12, 115, 116, 117, 118, 119, 35, 36, 37, 21, 22, 23, 24, 140, 141, 133, 134, 135, 136, 137, 138, 139, 142, 143, 144, 145, 146, 147, 148, 149, 150, 151, 152, 153, 154, 155, 156, 157, 158, 159, 160, 161, 162, 163] (by decide +kernel) (by decide +kernel)
set_option maxRecDepth 20000 in
theorem gX7_lay_X4_layOut : GoodIn wsX7_lay (wsV RX7 56 RX4 yX4_layOut wsX4_layOut) := goodIn_app (goodIn_of _ (by decide +kernel)) ggX7_lay_X4_layOut
set_option maxRecDepth 20000 in
theorem ggX7_lay_X2_clear : GoodIn wsX7_lay wsX2_clear := goodIn_r _ [124, 125, 126, 164, 165, 166] (by decide +kernel) (by decide +kernel)
set_option maxRecDepth 20000 in
theorem gX7_lay_X2_clear : GoodIn wsX7_lay (wsV RX7 74 RX2 yX2_clear wsX2_clear) := goodIn_app (goodIn_of _ (by decide +kernel)) ggX7_lay_X2_clear
theorem dX7_lay_0 : decode cX7_lay 0 = .ok (.aload_n 0, 1) := by decide +kernel
theorem dX7_lay_1 : decode cX7_lay 1 = .ok (.getfield 10, 3) := by decide +kernel
theorem dX7_lay_4 : decode cX7_lay 4 = .ok (.invokevirtual 67, 3) := by decide +kernel
theorem dX7_lay_7 : decode cX7_lay 7 = .ok (.bipush (-4), 2) := by decide +kernel
theorem dX7_lay_9 : decode cX7_lay 9 = .ok (.if_icmp .ne 13, 3) := by decide +kernel
theorem dX7_lay_12 : decode cX7_lay 12 = .ok (.aload_n 0, 1) := by decide +kernel
theorem dX7_lay_13 : decode cX7_lay 13 = .ok (.getfield 10, 3) := by decide +kernel
theorem dX7_lay_16 : decode cX7_lay 16 = .ok (.invokevirtual 70, 3) := by decide +kernel
theorem dX7_lay_19 : decode cX7_lay 19 = .ok (.ifCond .ne 6, 3) := by decide +kernel
theorem dX7_lay_22 : decode cX7_lay 22 = .ok (.bipush (-2), 2) := by decide +kernel
theorem dX7_lay_24 : decode cX7_lay 24 = .ok (.ireturn, 1) := by decide +kernel
theorem dX7_lay_25 : decode cX7_lay 25 = .ok (.aload_n 0, 1) := by decide +kernel
theorem dX7_lay_26 : decode cX7_lay 26 = .ok (.getfield 19, 3) := by decide +kernel
theorem dX7_lay_29 : decode cX7_lay 29 = .ok (.aload_n 0, 1) := by decide +kernel
theorem dX7_lay_30 : decode cX7_lay 30 = .ok (.getfield 10, 3) := by decide +kernel
theorem dX7_lay_33 : decode cX7_lay 33 = .ok (.invokevirtual 56, 3) := by decide +kernel
theorem dX7_lay_36 : decode cX7_lay 36 = .ok (.aload_n 0, 1) := by decide +kernel
theorem dX7_lay_37 : decode cX7_lay 37 = .ok (.getfield 26, 3) := by decide +kernel
theorem dX7_lay_40 : decode cX7_lay 40 = .ok (.invokevirtual 74, 3) := by decide +kernel
theorem dX7_lay_43 : decode cX7_lay 43 = .ok (.iconst 0, 1) := by decide +kernel
theorem dX7_lay_44 : decode cX7_lay 44 = .ok (.istore_n 1, 1) := by decide +kernel
theorem dX7_lay_45 : decode cX7_lay 45 = .ok (.iload_n 1, 1) := by decide +kernel
theorem dX7_lay_46 : decode cX7_lay 46 = .ok (.aload_n 0, 1) := by decide +kernel
theorem dX7_lay_47 : decode cX7_lay 47 = .ok (.getfield 30, 3) := by decide +kernel
theorem dX7_lay_50 : decode cX7_lay 50 = .ok (.arraylength, 1) := by decide +kernel
theorem dX7_lay_51 : decode cX7_lay 51 = .ok (.if_icmp .ge 16, 3) := by decide +kernel
theorem dX7_lay_54 : decode cX7_lay 54 = .ok (.aload_n 0, 1) := by decide +kernel
theorem dX7_lay_55 : decode cX7_lay 55 = .ok (.getfield 30, 3) := by decide +kernel
theorem dX7_lay_58 : decode cX7_lay 58 = .ok (.iload_n 1, 1) := by decide +kernel
theorem dX7_lay_59 : decode cX7_lay 59 = .ok (.iconst 0, 1) := by decide +kernel
theorem dX7_lay_60 : decode cX7_lay 60 = .ok (.iastore, 1) := by decide +kernel
theorem dX7_lay_61 : decode cX7_lay 61 = .ok (.iinc 1 1, 3) := by decide +kernel
theorem dX7_lay_64 : decode cX7_lay 64 = .ok (.goto (-19), 3) := by decide +kernel
theorem dX7_lay_67 : decode cX7_lay 67 = .ok (.aload_n 0, 1) := by decide +kernel
theorem dX7_lay_68 : decode cX7_lay 68 = .ok (.getfield 19, 3) := by decide +kernel
theorem dX7_lay_71 : decode cX7_lay 71 = .ok (.getfield 75, 3) := by decide +kernel
theorem dX7_lay_74 : decode cX7_lay 74 = .ok (.ireturn, 1) := by decide +kernel
set_option maxRecDepth 20000 in
theorem ggX7_plug_X4_portOf : GoodIn wsX7_plug wsX4_portOf := goodIn_r _ [9, 10, 11, 12, 13, 8, 14, 15, 16, 17, 18, 19, 20, 21, 22, 114, 115, 116, 117, 118, 119, 120, 121, 122, 123, 124] (by decide +kernel) (by decide +kernel)
set_option maxRecDepth 20000 in
theorem gX7_plug_X4_portOf : GoodIn wsX7_plug (wsV RX7 78 RX4 yX4_portOf wsX4_portOf) := goodIn_app (goodIn_of _ (by decide +kernel)) ggX7_plug_X4_portOf
set_option maxRecDepth 20000 in
theorem ggX7_plug_X7_isZeroOrOne : GoodIn wsX7_plug wsX7_isZeroOrOne := goodIn_r _ [26] (by decide +kernel) (by decide +kernel)
set_option maxRecDepth 20000 in
theorem gX7_plug_X7_isZeroOrOne : GoodIn wsX7_plug (va_wsS RX7 82 yX7_isZeroOrOne wsX7_isZeroOrOne) := goodIn_app (goodIn_of _ (by decide +kernel)) ggX7_plug_X7_isZeroOrOne
set_option maxRecDepth 20000 in
theorem ggX7_plug_X2_keep : GoodIn wsX7_plug wsX2_keep := goodIn_r _ [31, 32, 33, 34, 35, 36, 37, 38, 39, 40, 41, 8, 42, 15, 16, 10, 43, 44, 45, 46, 47, 48, 49, 20, 50, 51, 22, 52, 53, 54, 55, 56, 57, 58, 59, 60, 61, 62, 63, 64, 65, 66, 67, 68, 69, 70, 71, 72, 73, 74, 75, 76, 77, 78, 79, 80, 81, 82, 83, 84, 85, 125, 126, 127, 114, 115, 116, 117, 118, 119, 120, 121, 122, 123, 124, 103, 104, 105, 106, 107, 108, 109, 110, 111, 112, 113, 128, 129, 130, 131, 132, 133, 134] (by decide +kernel) (by decide +kernel)
set_option maxRecDepth 20000 in
theorem gX7_plug_X2_keep : GoodIn wsX7_plug (wsV RX7 91 RX2 yX2_keep wsX2_keep) := goodIn_app (goodIn_of _ (by decide +kernel)) ggX7_plug_X2_keep
set_option maxRecDepth 20000 in
theorem ggX7_plug_X4_plugLink : GoodIn wsX7_plug wsX4_plugLink := goodIn_r _ [89, 90, 91, 6, 7, 8, 9, 10, 11, 12, 13, 14, 15, 16, 17, 18, 19, 20, 21, 22, 103, 104, 105, 106, 107, 108, 109, 110, 111, 112, 113, 114, 115, 116, 117, 118, 119, 120, 121, 122, 123, 124] (by decide +kernel) (by decide +kernel)
set_option maxRecDepth 20000 in
theorem gX7_plug_X4_plugLink : GoodIn wsX7_plug (wsV RX7 95 RX4 yX4_plugLink wsX4_plugLink) := goodIn_app (goodIn_of _ (by decide +kernel)) ggX7_plug_X4_plugLink
set_option maxRecDepth 20000 in
theorem ggX7_plug_X0_howManyUp : GoodIn wsX7_plug wsX0_howManyUp := goodIn_r _ [95, 22, 96, 121, 122, 123, 124, 103, 104, 105, 106, 107, 108, 109, 110, 111, 112, 113] (by decide +kernel) (by decide +kernel)
set_option maxRecDepth 20000 in
theorem gX7_plug_X0_howManyUp : GoodIn wsX7_plug (wsV RX7 103 RX0 yX0_howManyUp wsX0_howManyUp) := goodIn_app (goodIn_of _ (by decide +kernel)) ggX7_plug_X0_howManyUp
theorem dX7_plug_0 : decode cX7_plug 0 = .ok (.aload_n 0, 1) := by decide +kernel
theorem dX7_plug_1 : decode cX7_plug 1 = .ok (.getfield 19, 3) := by decide +kernel
theorem dX7_plug_4 : decode cX7_plug 4 = .ok (.iconst 0, 1) := by decide +kernel
theorem dX7_plug_5 : decode cX7_plug 5 = .ok (.iload_n 1, 1) := by decide +kernel
theorem dX7_plug_6 : decode cX7_plug 6 = .ok (.invokevirtual 78, 3) := by decide +kernel
theorem dX7_plug_9 : decode cX7_plug 9 = .ok (.astore_n 3, 1) := by decide +kernel
theorem dX7_plug_10 : decode cX7_plug 10 = .ok (.aload_n 3, 1) := by decide +kernel
theorem dX7_plug_11 : decode cX7_plug 11 = .ok (.ifnull 10, 3) := by decide +kernel
theorem dX7_plug_14 : decode cX7_plug 14 = .ok (.iload_n 2, 1) := by decide +kernel
theorem dX7_plug_15 : decode cX7_plug 15 = .ok (.invokestatic 82, 3) := by decide +kernel
theorem dX7_plug_18 : decode cX7_plug 18 = .ok (.ifCond .ne 5, 3) := by decide +kernel
theorem dX7_plug_21 : decode cX7_plug 21 = .ok (.iconst (-1), 1) := by decide +kernel
theorem dX7_plug_22 : decode cX7_plug 22 = .ok (.ireturn, 1) := by decide +kernel
theorem dX7_plug_23 : decode cX7_plug 23 = .ok (.iload_n 2, 1) := by decide +kernel
theorem dX7_plug_24 : decode cX7_plug 24 = .ok (.iconst 1, 1) := by decide +kernel
theorem dX7_plug_25 : decode cX7_plug 25 = .ok (.if_icmp .ne 7, 3) := by decide +kernel
theorem dX7_plug_28 : decode cX7_plug 28 = .ok (.iconst 1, 1) := by decide +kernel
theorem dX7_plug_29 : decode cX7_plug 29 = .ok (.goto 4, 3) := by decide +kernel
theorem dX7_plug_32 : decode cX7_plug 32 = .ok (.iconst 0, 1) := by decide +kernel
theorem dX7_plug_33 : decode cX7_plug 33 = .ok (.istore 4, 2) := by decide +kernel
theorem dX7_plug_35 : decode cX7_plug 35 = .ok (.aload_n 3, 1) := by decide +kernel
theorem dX7_plug_36 : decode cX7_plug 36 = .ok (.getfield 85, 3) := by decide +kernel
theorem dX7_plug_39 : decode cX7_plug 39 = .ok (.iload 4, 2) := by decide +kernel
theorem dX7_plug_41 : decode cX7_plug 41 = .ok (.if_icmp .ne 6, 3) := by decide +kernel
theorem dX7_plug_44 : decode cX7_plug 44 = .ok (.bipush (-2), 2) := by decide +kernel
theorem dX7_plug_46 : decode cX7_plug 46 = .ok (.ireturn, 1) := by decide +kernel
theorem dX7_plug_47 : decode cX7_plug 47 = .ok (.aload_n 0, 1) := by decide +kernel
theorem dX7_plug_48 : decode cX7_plug 48 = .ok (.getfield 26, 3) := by decide +kernel
theorem dX7_plug_51 : decode cX7_plug 51 = .ok (.aload_n 0, 1) := by decide +kernel
theorem dX7_plug_52 : decode cX7_plug 52 = .ok (.getfield 19, 3) := by decide +kernel
theorem dX7_plug_55 : decode cX7_plug 55 = .ok (.invokevirtual 91, 3) := by decide +kernel
theorem dX7_plug_58 : decode cX7_plug 58 = .ok (.aload_n 0, 1) := by decide +kernel
theorem dX7_plug_59 : decode cX7_plug 59 = .ok (.getfield 19, 3) := by decide +kernel
theorem dX7_plug_62 : decode cX7_plug 62 = .ok (.iload_n 1, 1) := by decide +kernel
theorem dX7_plug_63 : decode cX7_plug 63 = .ok (.iload 4, 2) := by decide +kernel
theorem dX7_plug_65 : decode cX7_plug 65 = .ok (.invokevirtual 95, 3) := by decide +kernel
theorem dX7_plug_68 : decode cX7_plug 68 = .ok (.aload_n 0, 1) := by decide +kernel
theorem dX7_plug_69 : decode cX7_plug 69 = .ok (.getfield 19, 3) := by decide +kernel
theorem dX7_plug_72 : decode cX7_plug 72 = .ok (.getfield 99, 3) := by decide +kernel
theorem dX7_plug_75 : decode cX7_plug 75 = .ok (.invokevirtual 103, 3) := by decide +kernel
theorem dX7_plug_78 : decode cX7_plug 78 = .ok (.ireturn, 1) := by decide +kernel
set_option maxRecDepth 20000 in
theorem ggX7_mute_X4_endOf : GoodIn wsX7_mute wsX4_endOf := goodIn_r _ [8, 9, 10, 108, 109, 110, 111, 112, 113, 114] (by decide +kernel) (by decide +kernel)
set_option maxRecDepth 20000 in
theorem gX7_mute_X4_endOf : GoodIn wsX7_mute (wsV RX7 108 RX4 yX4_endOf wsX4_endOf) := goodIn_app (goodIn_of _ (by decide +kernel)) ggX7_mute_X4_endOf
set_option maxRecDepth 20000 in
theorem ggX7_mute_X4_portOf : GoodIn wsX7_mute wsX4_portOf := goodIn_r _ [14, 15, 16, 5, 6, 7, 8, 9, 10, 17, 18, 19, 20, 21, 22, 108, 109, 110, 111, 112, 113, 114, 115, 116, 117, 118] (by decide +kernel) (by decide +kernel)
set_option maxRecDepth 20000 in
theorem gX7_mute_X4_portOf : GoodIn wsX7_mute (wsV RX7 78 RX4 yX4_portOf wsX4_portOf) := goodIn_app (goodIn_of _ (by decide +kernel)) ggX7_mute_X4_portOf
set_option maxRecDepth 20000 in
theorem ggX7_mute_X7_isZeroOrOne : GoodIn wsX7_mute wsX7_isZeroOrOne := goodIn_r _ [26] (by decide +kernel) (by decide +kernel)
set_option maxRecDepth 20000 in
theorem gX7_mute_X7_isZeroOrOne : GoodIn wsX7_mute (va_wsS RX7 82 yX7_isZeroOrOne wsX7_isZeroOrOne) := goodIn_app (goodIn_of _ (by decide +kernel)) ggX7_mute_X7_isZeroOrOne
set_option maxRecDepth 20000 in
theorem ggX7_mute_X2_keep : GoodIn wsX7_mute wsX2_keep := goodIn_r _ [31, 32, 33, 34, 35, 36, 37, 38, 39, 40, 41, 7, 42, 9, 10, 15, 43, 44, 45, 46, 47, 48, 49, 20, 50, 51, 22, 52, 53, 54, 55, 56, 57, 58, 59, 60, 61, 62, 63, 64, 65, 66, 67, 68, 69, 70, 71, 72, 73, 74, 75, 76, 77, 78, 79, 80, 81, 82, 83, 84, 85, 119, 120, 121, 108, 109, 110, 111, 112, 113, 114, 115, 116, 117, 118, 97, 98, 99, 100, 101, 102, 103, 104, 105, 106, 107, 122, 123, 124, 125, 126, 127, 128] (by decide +kernel) (by decide +kernel)
set_option maxRecDepth 20000 in
theorem gX7_mute_X2_keep : GoodIn wsX7_mute (wsV RX7 91 RX2 yX2_keep wsX2_keep) := goodIn_app (goodIn_of _ (by decide +kernel)) ggX7_mute_X2_keep
set_option maxRecDepth 20000 in
theorem ggX7_mute_X0_howManyMuted : GoodIn wsX7_mute wsX0_howManyMuted := goodIn_r _ [89, 22, 90, 115, 116, 117, 118, 97, 98, 99, 100, 101, 102, 103, 104, 105, 106, 107] (by decide +kernel) (by decide +kernel)
set_option maxRecDepth 20000 in
theorem gX7_mute_X0_howManyMuted : GoodIn wsX7_mute (wsV RX7 115 RX0 yX0_howManyMuted wsX0_howManyMuted) := goodIn_app (goodIn_of _ (by decide +kernel)) ggX7_mute_X0_howManyMuted
theorem dX7_mute_0 : decode cX7_mute 0 = .ok (.aload_n 0, 1) := by decide +kernel
theorem dX7_mute_1 : decode cX7_mute 1 = .ok (.getfield 19, 3) := by decide +kernel
theorem dX7_mute_4 : decode cX7_mute 4 = .ok (.iload_n 1, 1) := by decide +kernel
theorem dX7_mute_5 : decode cX7_mute 5 = .ok (.invokevirtual 108, 3) := by decide +kernel
theorem dX7_mute_8 : decode cX7_mute 8 = .ok (.astore 4, 2) := by decide +kernel
theorem dX7_mute_10 : decode cX7_mute 10 = .ok (.aload_n 0, 1) := by decide +kernel
theorem dX7_mute_11 : decode cX7_mute 11 = .ok (.getfield 19, 3) := by decide +kernel
theorem dX7_mute_14 : decode cX7_mute 14 = .ok (.iload_n 1, 1) := by decide +kernel
theorem dX7_mute_15 : decode cX7_mute 15 = .ok (.iload_n 2, 1) := by decide +kernel
theorem dX7_mute_16 : decode cX7_mute 16 = .ok (.invokevirtual 78, 3) := by decide +kernel
theorem dX7_mute_19 : decode cX7_mute 19 = .ok (.astore 5, 2) := by decide +kernel
theorem dX7_mute_21 : decode cX7_mute 21 = .ok (.aload 4, 2) := by decide +kernel
theorem dX7_mute_23 : decode cX7_mute 23 = .ok (.ifnull 15, 3) := by decide +kernel
theorem dX7_mute_26 : decode cX7_mute 26 = .ok (.aload 5, 2) := by decide +kernel
theorem dX7_mute_28 : decode cX7_mute 28 = .ok (.ifnull 10, 3) := by decide +kernel
theorem dX7_mute_31 : decode cX7_mute 31 = .ok (.iload_n 3, 1) := by decide +kernel
theorem dX7_mute_32 : decode cX7_mute 32 = .ok (.invokestatic 82, 3) := by decide +kernel
theorem dX7_mute_35 : decode cX7_mute 35 = .ok (.ifCond .ne 5, 3) := by decide +kernel
theorem dX7_mute_38 : decode cX7_mute 38 = .ok (.iconst (-1), 1) := by decide +kernel
theorem dX7_mute_39 : decode cX7_mute 39 = .ok (.ireturn, 1) := by decide +kernel
theorem dX7_mute_40 : decode cX7_mute 40 = .ok (.iload_n 3, 1) := by decide +kernel
theorem dX7_mute_41 : decode cX7_mute 41 = .ok (.iconst 1, 1) := by decide +kernel
theorem dX7_mute_42 : decode cX7_mute 42 = .ok (.if_icmp .ne 7, 3) := by decide +kernel
theorem dX7_mute_45 : decode cX7_mute 45 = .ok (.iconst 1, 1) := by decide +kernel
theorem dX7_mute_46 : decode cX7_mute 46 = .ok (.goto 4, 3) := by decide +kernel
theorem dX7_mute_49 : decode cX7_mute 49 = .ok (.iconst 0, 1) := by decide +kernel
theorem dX7_mute_50 : decode cX7_mute 50 = .ok (.istore 6, 2) := by decide +kernel
theorem dX7_mute_52 : decode cX7_mute 52 = .ok (.aload 5, 2) := by decide +kernel
theorem dX7_mute_54 : decode cX7_mute 54 = .ok (.getfield 112, 3) := by decide +kernel
theorem dX7_mute_57 : decode cX7_mute 57 = .ok (.iload 6, 2) := by decide +kernel
theorem dX7_mute_59 : decode cX7_mute 59 = .ok (.if_icmp .ne 6, 3) := by decide +kernel
theorem dX7_mute_62 : decode cX7_mute 62 = .ok (.bipush (-2), 2) := by decide +kernel
theorem dX7_mute_64 : decode cX7_mute 64 = .ok (.ireturn, 1) := by decide +kernel
theorem dX7_mute_65 : decode cX7_mute 65 = .ok (.aload_n 0, 1) := by decide +kernel
theorem dX7_mute_66 : decode cX7_mute 66 = .ok (.getfield 26, 3) := by decide +kernel
theorem dX7_mute_69 : decode cX7_mute 69 = .ok (.aload_n 0, 1) := by decide +kernel
theorem dX7_mute_70 : decode cX7_mute 70 = .ok (.getfield 19, 3) := by decide +kernel
theorem dX7_mute_73 : decode cX7_mute 73 = .ok (.invokevirtual 91, 3) := by decide +kernel
theorem dX7_mute_76 : decode cX7_mute 76 = .ok (.aload 5, 2) := by decide +kernel
theorem dX7_mute_78 : decode cX7_mute 78 = .ok (.iload 6, 2) := by decide +kernel
theorem dX7_mute_80 : decode cX7_mute 80 = .ok (.putfield 112, 3) := by decide +kernel
theorem dX7_mute_83 : decode cX7_mute 83 = .ok (.aload 4, 2) := by decide +kernel
theorem dX7_mute_85 : decode cX7_mute 85 = .ok (.invokevirtual 115, 3) := by decide +kernel
theorem dX7_mute_88 : decode cX7_mute 88 = .ok (.ireturn, 1) := by decide +kernel
set_option maxRecDepth 20000 in
theorem ggX7_tell_X4_portOf : GoodIn wsX7_tell wsX4_portOf := goodIn_r _ [9, 10, 11, 12, 13, 8, 14, 15, 16, 17, 18, 19, 20, 21, 22, 106, 107, 108, 109, 110, 111, 112, 113, 114, 115, 116] (by decide +kernel) (by decide +kernel)
set_option maxRecDepth 20000 in
theorem gX7_tell_X4_portOf : GoodIn wsX7_tell (wsV RX7 78 RX4 yX4_portOf wsX4_portOf) := goodIn_app (goodIn_of _ (by decide +kernel)) ggX7_tell_X4_portOf
set_option maxRecDepth 20000 in
theorem ggX7_tell_X7_isZeroOrOne : GoodIn wsX7_tell wsX7_isZeroOrOne := goodIn_r _ [26] (by decide +kernel) (by decide +kernel)
set_option maxRecDepth 20000 in
theorem gX7_tell_X7_isZeroOrOne : GoodIn wsX7_tell (va_wsS RX7 82 yX7_isZeroOrOne wsX7_isZeroOrOne) := goodIn_app (goodIn_of _ (by decide +kernel)) ggX7_tell_X7_isZeroOrOne
set_option maxRecDepth 20000 in
theorem ggX7_tell_X7_isFigure : GoodIn wsX7_tell wsX7_isFigure := goodIn_r _ [29] (by decide +kernel) (by decide +kernel)
set_option maxRecDepth 20000 in
theorem gX7_tell_X7_isFigure : GoodIn wsX7_tell (va_wsS RX7 118 yX7_isFigure wsX7_isFigure) := goodIn_app (goodIn_of _ (by decide +kernel)) ggX7_tell_X7_isFigure
set_option maxRecDepth 20000 in
theorem ggX7_tell_X2_keep : GoodIn wsX7_tell wsX2_keep := goodIn_r _ [34, 35, 36, 37, 38, 39, 40, 41, 42, 43, 44, 8, 45, 15, 16, 10, 46, 47, 48, 49, 50, 51, 52, 20, 53, 54, 22, 55, 56, 57, 58, 59, 60, 61, 62, 63, 64, 65, 66, 67, 68, 69, 70, 71, 72, 73, 74, 75, 76, 77, 78, 79, 80, 81, 82, 83, 84, 85, 86, 87, 88, 117, 118, 119, 106, 107, 108, 109, 110, 111, 112, 113, 114, 115, 116, 95, 96, 97, 98, 99, 100, 101, 102, 103, 104, 105, 120, 121, 122, 123, 124, 125, 126] (by decide +kernel) (by decide +kernel)
set_option maxRecDepth 20000 in
theorem gX7_tell_X2_keep : GoodIn wsX7_tell (wsV RX7 91 RX2 yX2_keep wsX2_keep) := goodIn_app (goodIn_of _ (by decide +kernel)) ggX7_tell_X2_keep
theorem dX7_tell_0 : decode cX7_tell 0 = .ok (.aload_n 0, 1) := by decide +kernel
theorem dX7_tell_1 : decode cX7_tell 1 = .ok (.getfield 19, 3) := by decide +kernel
theorem dX7_tell_4 : decode cX7_tell 4 = .ok (.iload_n 1, 1) := by decide +kernel
theorem dX7_tell_5 : decode cX7_tell 5 = .ok (.iload_n 2, 1) := by decide +kernel
theorem dX7_tell_6 : decode cX7_tell 6 = .ok (.invokevirtual 78, 3) := by decide +kernel
theorem dX7_tell_9 : decode cX7_tell 9 = .ok (.astore 5, 2) := by decide +kernel
theorem dX7_tell_11 : decode cX7_tell 11 = .ok (.aload 5, 2) := by decide +kernel
theorem dX7_tell_13 : decode cX7_tell 13 = .ok (.ifnull 18, 3) := by decide +kernel
theorem dX7_tell_16 : decode cX7_tell 16 = .ok (.iload_n 3, 1) := by decide +kernel
theorem dX7_tell_17 : decode cX7_tell 17 = .ok (.invokestatic 82, 3) := by decide +kernel
theorem dX7_tell_20 : decode cX7_tell 20 = .ok (.ifCond .eq 11, 3) := by decide +kernel
theorem dX7_tell_23 : decode cX7_tell 23 = .ok (.iload 4, 2) := by decide +kernel
theorem dX7_tell_25 : decode cX7_tell 25 = .ok (.invokestatic 118, 3) := by decide +kernel
theorem dX7_tell_28 : decode cX7_tell 28 = .ok (.ifCond .ne 5, 3) := by decide +kernel
theorem dX7_tell_31 : decode cX7_tell 31 = .ok (.iconst (-1), 1) := by decide +kernel
theorem dX7_tell_32 : decode cX7_tell 32 = .ok (.ireturn, 1) := by decide +kernel
theorem dX7_tell_33 : decode cX7_tell 33 = .ok (.iload_n 3, 1) := by decide +kernel
theorem dX7_tell_34 : decode cX7_tell 34 = .ok (.ifCond .ne 11, 3) := by decide +kernel
theorem dX7_tell_37 : decode cX7_tell 37 = .ok (.aload 5, 2) := by decide +kernel
theorem dX7_tell_39 : decode cX7_tell 39 = .ok (.getfield 121, 3) := by decide +kernel
theorem dX7_tell_42 : decode cX7_tell 42 = .ok (.goto 8, 3) := by decide +kernel
theorem dX7_tell_45 : decode cX7_tell 45 = .ok (.aload 5, 2) := by decide +kernel
theorem dX7_tell_47 : decode cX7_tell 47 = .ok (.getfield 124, 3) := by decide +kernel
theorem dX7_tell_50 : decode cX7_tell 50 = .ok (.istore 6, 2) := by decide +kernel
theorem dX7_tell_52 : decode cX7_tell 52 = .ok (.iload 6, 2) := by decide +kernel
theorem dX7_tell_54 : decode cX7_tell 54 = .ok (.iload 4, 2) := by decide +kernel
theorem dX7_tell_56 : decode cX7_tell 56 = .ok (.if_icmp .ne 6, 3) := by decide +kernel
theorem dX7_tell_59 : decode cX7_tell 59 = .ok (.bipush (-2), 2) := by decide +kernel
theorem dX7_tell_61 : decode cX7_tell 61 = .ok (.ireturn, 1) := by decide +kernel
theorem dX7_tell_62 : decode cX7_tell 62 = .ok (.aload_n 0, 1) := by decide +kernel
theorem dX7_tell_63 : decode cX7_tell 63 = .ok (.getfield 26, 3) := by decide +kernel
theorem dX7_tell_66 : decode cX7_tell 66 = .ok (.aload_n 0, 1) := by decide +kernel
theorem dX7_tell_67 : decode cX7_tell 67 = .ok (.getfield 19, 3) := by decide +kernel
theorem dX7_tell_70 : decode cX7_tell 70 = .ok (.invokevirtual 91, 3) := by decide +kernel
theorem dX7_tell_73 : decode cX7_tell 73 = .ok (.iload_n 3, 1) := by decide +kernel
theorem dX7_tell_74 : decode cX7_tell 74 = .ok (.ifCond .ne 13, 3) := by decide +kernel
theorem dX7_tell_77 : decode cX7_tell 77 = .ok (.aload 5, 2) := by decide +kernel
theorem dX7_tell_79 : decode cX7_tell 79 = .ok (.iload 4, 2) := by decide +kernel
theorem dX7_tell_81 : decode cX7_tell 81 = .ok (.putfield 121, 3) := by decide +kernel
theorem dX7_tell_84 : decode cX7_tell 84 = .ok (.goto 10, 3) := by decide +kernel
theorem dX7_tell_87 : decode cX7_tell 87 = .ok (.aload 5, 2) := by decide +kernel
theorem dX7_tell_89 : decode cX7_tell 89 = .ok (.iload 4, 2) := by decide +kernel
theorem dX7_tell_91 : decode cX7_tell 91 = .ok (.putfield 124, 3) := by decide +kernel
theorem dX7_tell_94 : decode cX7_tell 94 = .ok (.iload 6, 2) := by decide +kernel
theorem dX7_tell_96 : decode cX7_tell 96 = .ok (.ireturn, 1) := by decide +kernel
set_option maxRecDepth 20000 in
theorem ggX7_set_X7_isMost : GoodIn wsX7_set wsX7_isMost := goodIn_r _ [6] (by decide +kernel) (by decide +kernel)
set_option maxRecDepth 20000 in
theorem gX7_set_X7_isMost : GoodIn wsX7_set (va_wsS RX7 127 yX7_isMost wsX7_isMost) := goodIn_app (goodIn_of _ (by decide +kernel)) ggX7_set_X7_isMost
set_option maxRecDepth 20000 in
theorem ggX7_set_X7_isFigure : GoodIn wsX7_set wsX7_isFigure := goodIn_r _ [9] (by decide +kernel) (by decide +kernel)
set_option maxRecDepth 20000 in
theorem gX7_set_X7_isFigure : GoodIn wsX7_set (va_wsS RX7 118 yX7_isFigure wsX7_isFigure) := goodIn_app (goodIn_of _ (by decide +kernel)) ggX7_set_X7_isFigure
set_option maxRecDepth 20000 in
theorem ggX7_set_X4_setting : GoodIn wsX7_set wsX4_setting := goodIn_r _ [14, 15, 16, 17, 18, 90, 91, 92, 93, 94, 95, 96, 97, 98, 99, 100] (by decide +kernel) (by decide +kernel)
set_option maxRecDepth 20000 in
theorem gX7_set_X4_setting : GoodIn wsX7_set (wsV RX7 130 RX4 yX4_setting wsX4_setting) := goodIn_app (goodIn_of _ (by decide +kernel)) ggX7_set_X4_setting
set_option maxRecDepth 20000 in
theorem ggX7_set_X2_keep : GoodIn wsX7_set wsX2_keep := goodIn_r _ [23, 24, 25, 26, 27, 28, 29, 30, 31, 32, 33, 13, 34, 15, 17, 35, 18, 36, 37, 38, 39, 40, 41, 42, 43, 44, 45, 46, 47, 48, 49, 50, 51, 52, 53, 54, 55, 56, 57, 58, 59, 60, 61, 62, 63, 64, 65, 66, 67, 68, 69, 70, 71, 72, 73, 74, 75, 76, 77, 78, 79, 101, 102, 103, 90, 91, 92, 93, 94, 95, 96, 97, 98, 99, 100, 104, 105, 106, 107, 108, 109, 110, 111, 112, 113, 114, 115, 116, 117, 118, 119, 120, 121] (by decide +kernel) (by decide +kernel)
set_option maxRecDepth 20000 in
theorem gX7_set_X2_keep : GoodIn wsX7_set (wsV RX7 91 RX2 yX2_keep wsX2_keep) := goodIn_app (goodIn_of _ (by decide +kernel)) ggX7_set_X2_keep
set_option maxRecDepth 20000 in
theorem ggX7_set_X4_changeSetting : GoodIn wsX7_set wsX4_changeSetting := goodIn_r _ [83, 15, 16, 17, 18, 90, 91, 92, 93, 94, 95, 96, 97, 98, 99, 100] (by decide +kernel) (by decide +kernel)
set_option maxRecDepth 20000 in
theorem gX7_set_X4_changeSetting : GoodIn wsX7_set (wsV RX7 134 RX4 yX4_changeSetting wsX4_changeSetting) := goodIn_app (goodIn_of _ (by decide +kernel)) ggX7_set_X4_changeSetting
theorem dX7_set_0 : decode cX7_set 0 = .ok (.iload_n 1, 1) := by decide +kernel
theorem dX7_set_1 : decode cX7_set 1 = .ok (.ifCond .lt 30, 3) := by decide +kernel
theorem dX7_set_4 : decode cX7_set 4 = .ok (.iload_n 1, 1) := by decide +kernel
theorem dX7_set_5 : decode cX7_set 5 = .ok (.iconst 2, 1) := by decide +kernel
theorem dX7_set_6 : decode cX7_set 6 = .ok (.if_icmp .gt 25, 3) := by decide +kernel
theorem dX7_set_9 : decode cX7_set 9 = .ok (.iload_n 1, 1) := by decide +kernel
theorem dX7_set_10 : decode cX7_set 10 = .ok (.iconst 2, 1) := by decide +kernel
theorem dX7_set_11 : decode cX7_set 11 = .ok (.if_icmp .ne 13, 3) := by decide +kernel
theorem dX7_set_14 : decode cX7_set 14 = .ok (.iload_n 2, 1) := by decide +kernel
theorem dX7_set_15 : decode cX7_set 15 = .ok (.invokestatic 127, 3) := by decide +kernel
theorem dX7_set_18 : decode cX7_set 18 = .ok (.ifCond .ne 15, 3) := by decide +kernel
theorem dX7_set_21 : decode cX7_set 21 = .ok (.goto 10, 3) := by decide +kernel
theorem dX7_set_24 : decode cX7_set 24 = .ok (.iload_n 2, 1) := by decide +kernel
theorem dX7_set_25 : decode cX7_set 25 = .ok (.invokestatic 118, 3) := by decide +kernel
theorem dX7_set_28 : decode cX7_set 28 = .ok (.ifCond .ne 5, 3) := by decide +kernel
theorem dX7_set_31 : decode cX7_set 31 = .ok (.iconst (-1), 1) := by decide +kernel
theorem dX7_set_32 : decode cX7_set 32 = .ok (.ireturn, 1) := by decide +kernel
theorem dX7_set_33 : decode cX7_set 33 = .ok (.aload_n 0, 1) := by decide +kernel
theorem dX7_set_34 : decode cX7_set 34 = .ok (.getfield 19, 3) := by decide +kernel
theorem dX7_set_37 : decode cX7_set 37 = .ok (.iload_n 1, 1) := by decide +kernel
theorem dX7_set_38 : decode cX7_set 38 = .ok (.invokevirtual 130, 3) := by decide +kernel
theorem dX7_set_41 : decode cX7_set 41 = .ok (.istore_n 3, 1) := by decide +kernel
theorem dX7_set_42 : decode cX7_set 42 = .ok (.iload_n 3, 1) := by decide +kernel
theorem dX7_set_43 : decode cX7_set 43 = .ok (.iload_n 2, 1) := by decide +kernel
theorem dX7_set_44 : decode cX7_set 44 = .ok (.if_icmp .ne 6, 3) := by decide +kernel
theorem dX7_set_47 : decode cX7_set 47 = .ok (.bipush (-2), 2) := by decide +kernel
theorem dX7_set_49 : decode cX7_set 49 = .ok (.ireturn, 1) := by decide +kernel
theorem dX7_set_50 : decode cX7_set 50 = .ok (.aload_n 0, 1) := by decide +kernel
theorem dX7_set_51 : decode cX7_set 51 = .ok (.getfield 26, 3) := by decide +kernel
theorem dX7_set_54 : decode cX7_set 54 = .ok (.aload_n 0, 1) := by decide +kernel
theorem dX7_set_55 : decode cX7_set 55 = .ok (.getfield 19, 3) := by decide +kernel
theorem dX7_set_58 : decode cX7_set 58 = .ok (.invokevirtual 91, 3) := by decide +kernel
theorem dX7_set_61 : decode cX7_set 61 = .ok (.aload_n 0, 1) := by decide +kernel
theorem dX7_set_62 : decode cX7_set 62 = .ok (.getfield 19, 3) := by decide +kernel
theorem dX7_set_65 : decode cX7_set 65 = .ok (.iload_n 1, 1) := by decide +kernel
theorem dX7_set_66 : decode cX7_set 66 = .ok (.iload_n 2, 1) := by decide +kernel
theorem dX7_set_67 : decode cX7_set 67 = .ok (.invokevirtual 134, 3) := by decide +kernel
theorem dX7_set_70 : decode cX7_set 70 = .ok (.iload_n 3, 1) := by decide +kernel
theorem dX7_set_71 : decode cX7_set 71 = .ok (.ireturn, 1) := by decide +kernel
set_option maxRecDepth 20000 in
theorem ggX7_tick_X2_keep : GoodIn wsX7_tick wsX2_keep := goodIn_r _ [8, 9, 10, 11, 12, 13, 14, 15, 16, 17, 18, 19, 20, 21, 22, 23, 24, 25, 26, 27, 28, 29, 30, 31, 32, 33, 34, 35, 36, 37, 38, 39, 40, 41, 42, 43, 44, 45, 46, 47, 48, 49, 50, 51, 52, 53, 54, 55, 56, 57, 58, 59, 60, 61, 62, 63, 64, 65, 66, 67, 68, 177, 178, 179, 170, 171, 172, 173, 174, 175, 176, 180, 181, 182, 183, 184, 185, 186, 187, 188, 189, 190, 191, 192, 193, 194, 195, 196, 197, 198, 199, 200, 201] (by decide +kernel) (by decide +kernel)
set_option maxRecDepth 20000 in
theorem gX7_tick_X2_keep : GoodIn wsX7_tick (wsV RX7 91 RX2 yX2_keep wsX2_keep) := goodIn_app (goodIn_of _ (by decide +kernel)) ggX7_tick_X2_keep
set_option maxRecDepth 20000 in
theorem ggX7_tick_X4_step : GoodIn wsX7_tick wsX4_step := goodIn_r _ [72, 21, 22, 27, 73, 74, 75, 31, 76, 34, 77, 78, 79, 80, 39, 81, 41, 45, 82, 47, 52, 53, 54, 55, 56, 57, 58, 59, 60, 61, 83, 84, 85, 19, 86, 24, 25, 26, 87, 88, 89, 90, 91, 92, 93, 94, 95, 96, 97, 98, 99, 33, 100, 101, 102, 103, 104, 105, 106, 107, 43, 108, 109, 110, 111, 112, 44, 113, 114, 115, 116, 117, 118, 119, 120, 121, 49, 50, 48, 51, 122, 123, 124, 125, 126, 127, 128, 129, 130, 46, 42, 131, 132, 133, 134, 135, 35, 136, 137, 138, 139, 140, 141, 142, 143, 144, 145, 146, 147, 65, 148, 68, 67, 170, 171, 172, 173, 174, 175, 176, 180, 181, 182, 183, 184, 185, 186, 187, 188, 189, 190, 191, 192, 193, 194, 195, 196, 197, 198, 199, 200, 201] (by decide +kernel) (by decide +kernel)
set_option maxRecDepth 20000 in
theorem gX7_tick_X4_step : GoodIn wsX7_tick (wsV RX7 141 RX4 yX4_step wsX4_step) := goodIn_app (goodIn_of _ (by decide +kernel)) ggX7_tick_X4_step
set_option maxRecDepth 20000 in
theorem ggX7_tick_X7_agreed : GoodIn wsX7_tick wsX7_agreed := goodIn_r _ [153, 1, 154, 155, 156, 157, 158, 31, 159, 34, 160, 161, 162, 39, 163, 45, 82, 49, 48, 164, 165, 166, 167, 168, 169, 170, 171, 172, 173, 174, 175, 176, 180, 181, 182, 183, 184, 185, 186, 187, 188, 189, 190, 191, 192, 193, 194, 195, 196, 197, 198, 199] (by decide +kernel) (by decide +kernel)
set_option maxRecDepth 20000 in
theorem gX7_tick_X7_agreed : GoodIn wsX7_tick (wsV RX7 144 RX7 yX7_agreed wsX7_agreed) := goodIn_app (goodIn_of _ (by decide +kernel)) ggX7_tick_X7_agreed
theorem dX7_tick_0 : decode cX7_tick 0 = .ok (.iload_n 1, 1) := by decide +kernel
theorem dX7_tick_1 : decode cX7_tick 1 = .ok (.iconst 1, 1) := by decide +kernel
theorem dX7_tick_2 : decode cX7_tick 2 = .ok (.if_icmp .lt 9, 3) := by decide +kernel
theorem dX7_tick_5 : decode cX7_tick 5 = .ok (.iload_n 1, 1) := by decide +kernel
theorem dX7_tick_6 : decode cX7_tick 6 = .ok (.bipush 40, 2) := by decide +kernel
theorem dX7_tick_8 : decode cX7_tick 8 = .ok (.if_icmp .le 5, 3) := by decide +kernel
theorem dX7_tick_11 : decode cX7_tick 11 = .ok (.iconst (-1), 1) := by decide +kernel
theorem dX7_tick_12 : decode cX7_tick 12 = .ok (.ireturn, 1) := by decide +kernel
theorem dX7_tick_13 : decode cX7_tick 13 = .ok (.aload_n 0, 1) := by decide +kernel
theorem dX7_tick_14 : decode cX7_tick 14 = .ok (.getfield 19, 3) := by decide +kernel
theorem dX7_tick_17 : decode cX7_tick 17 = .ok (.getfield 138, 3) := by decide +kernel
theorem dX7_tick_20 : decode cX7_tick 20 = .ok (.iload_n 1, 1) := by decide +kernel
theorem dX7_tick_21 : decode cX7_tick 21 = .ok (.iadd, 1) := by decide +kernel
theorem dX7_tick_22 : decode cX7_tick 22 = .ok (.sipush 9999, 3) := by decide +kernel
theorem dX7_tick_25 : decode cX7_tick 25 = .ok (.if_icmp .le 6, 3) := by decide +kernel
theorem dX7_tick_28 : decode cX7_tick 28 = .ok (.bipush (-2), 2) := by decide +kernel
theorem dX7_tick_30 : decode cX7_tick 30 = .ok (.ireturn, 1) := by decide +kernel
theorem dX7_tick_31 : decode cX7_tick 31 = .ok (.aload_n 0, 1) := by decide +kernel
theorem dX7_tick_32 : decode cX7_tick 32 = .ok (.getfield 26, 3) := by decide +kernel
theorem dX7_tick_35 : decode cX7_tick 35 = .ok (.aload_n 0, 1) := by decide +kernel
theorem dX7_tick_36 : decode cX7_tick 36 = .ok (.getfield 19, 3) := by decide +kernel
theorem dX7_tick_39 : decode cX7_tick 39 = .ok (.invokevirtual 91, 3) := by decide +kernel
theorem dX7_tick_42 : decode cX7_tick 42 = .ok (.iconst 0, 1) := by decide +kernel
theorem dX7_tick_43 : decode cX7_tick 43 = .ok (.istore_n 2, 1) := by decide +kernel
theorem dX7_tick_44 : decode cX7_tick 44 = .ok (.iload_n 2, 1) := by decide +kernel
theorem dX7_tick_45 : decode cX7_tick 45 = .ok (.iload_n 1, 1) := by decide +kernel
theorem dX7_tick_46 : decode cX7_tick 46 = .ok (.if_icmp .ge 16, 3) := by decide +kernel
theorem dX7_tick_49 : decode cX7_tick 49 = .ok (.aload_n 0, 1) := by decide +kernel
theorem dX7_tick_50 : decode cX7_tick 50 = .ok (.getfield 19, 3) := by decide +kernel
theorem dX7_tick_53 : decode cX7_tick 53 = .ok (.invokevirtual 141, 3) := by decide +kernel
theorem dX7_tick_56 : decode cX7_tick 56 = .ok (.iinc 2 1, 3) := by decide +kernel
theorem dX7_tick_59 : decode cX7_tick 59 = .ok (.goto (-15), 3) := by decide +kernel
theorem dX7_tick_62 : decode cX7_tick 62 = .ok (.aload_n 0, 1) := by decide +kernel
theorem dX7_tick_63 : decode cX7_tick 63 = .ok (.invokevirtual 144, 3) := by decide +kernel
theorem dX7_tick_66 : decode cX7_tick 66 = .ok (.ireturn, 1) := by decide +kernel
set_option maxRecDepth 20000 in
theorem ggX7_undo_X2_takeLatest : GoodIn wsX7_undo wsX2_takeLatest := goodIn_r _ [8, 9, 10, 11, 71, 72, 73] (by decide +kernel) (by decide +kernel)
set_option maxRecDepth 20000 in
theorem gX7_undo_X2_takeLatest : GoodIn wsX7_undo (wsV RX7 147 RX2 yX2_takeLatest wsX2_takeLatest) := goodIn_app (goodIn_of _ (by decide +kernel)) ggX7_undo_X2_takeLatest
set_option maxRecDepth 20000 in
theorem ggX7_undo_X4_copyFrom : GoodIn wsX7_undo wsX4_copyFrom := goodIn_r _ [16, 17, 18, 19, 20, 21, 22, 23, 24, 25, 26, 27, 28, 29, 30, 31, 32, 33, 34, 35, 36, 37, 38, 39, 40, 41, 42, 43, 44, 45, 46, 47, 48, 49, 50, 51, 52, 53, 54, 55, 56, 57, 58, 59, 60, 61, 62, 63, 64, 74, 75, 76, 77, 78, 79, 80, 81, 82, 83, 84, 85, 86, 87, 88, 89, 90, 91, 92, 93, 94, 95, 96, 97, 98, 99, 100, 101, 102] (by decide +kernel) (by decide +kernel)
set_option maxRecDepth 20000 in
theorem gX7_undo_X4_copyFrom : GoodIn wsX7_undo (wsV RX7 151 RX4 yX4_copyFrom wsX4_copyFrom) := goodIn_app (goodIn_of _ (by decide +kernel)) ggX7_undo_X4_copyFrom
theorem dX7_undo_0 : decode cX7_undo 0 = .ok (.aload_n 0, 1) := by decide +kernel
theorem dX7_undo_1 : decode cX7_undo 1 = .ok (.getfield 26, 3) := by decide +kernel
theorem dX7_undo_4 : decode cX7_undo 4 = .ok (.invokevirtual 147, 3) := by decide +kernel
theorem dX7_undo_7 : decode cX7_undo 7 = .ok (.astore_n 1, 1) := by decide +kernel
theorem dX7_undo_8 : decode cX7_undo 8 = .ok (.aload_n 1, 1) := by decide +kernel
theorem dX7_undo_9 : decode cX7_undo 9 = .ok (.ifnonnull 6, 3) := by decide +kernel
theorem dX7_undo_12 : decode cX7_undo 12 = .ok (.bipush (-2), 2) := by decide +kernel
theorem dX7_undo_14 : decode cX7_undo 14 = .ok (.ireturn, 1) := by decide +kernel
theorem dX7_undo_15 : decode cX7_undo 15 = .ok (.aload_n 0, 1) := by decide +kernel
theorem dX7_undo_16 : decode cX7_undo 16 = .ok (.getfield 19, 3) := by decide +kernel
theorem dX7_undo_19 : decode cX7_undo 19 = .ok (.aload_n 1, 1) := by decide +kernel
theorem dX7_undo_20 : decode cX7_undo 20 = .ok (.invokevirtual 151, 3) := by decide +kernel
theorem dX7_undo_23 : decode cX7_undo 23 = .ok (.aload_n 0, 1) := by decide +kernel
theorem dX7_undo_24 : decode cX7_undo 24 = .ok (.getfield 26, 3) := by decide +kernel
theorem dX7_undo_27 : decode cX7_undo 27 = .ok (.getfield 154, 3) := by decide +kernel
theorem dX7_undo_30 : decode cX7_undo 30 = .ok (.ireturn, 1) := by decide +kernel
set_option maxRecDepth 20000 in
theorem ggX7_link_X4_portOf : GoodIn wsX7_link wsX4_portOf := goodIn_r _ [6, 7, 8, 9, 10, 5, 11, 12, 13, 14, 15, 16, 17, 18, 19, 49, 50, 51, 52, 53, 54, 55, 56, 57, 58, 59] (by decide +kernel) (by decide +kernel)
set_option maxRecDepth 20000 in
theorem gX7_link_X4_portOf : GoodIn wsX7_link (wsV RX7 78 RX4 yX4_portOf wsX4_portOf) := goodIn_app (goodIn_of _ (by decide +kernel)) ggX7_link_X4_portOf
set_option maxRecDepth 20000 in
theorem ggX7_link_X5_look : GoodIn wsX7_link wsX5_look := goodIn_r _ [24, 25, 26, 27, 28, 29, 30, 31, 32, 33, 34, 35, 36, 37, 38, 39, 40, 23, 41, 42, 60, 61, 62, 63, 64, 65, 66, 67, 68, 69, 70, 71, 72, 73, 74, 75] (by decide +kernel) (by decide +kernel)
set_option maxRecDepth 20000 in
theorem gX7_link_X5_look : GoodIn wsX7_link (wsV RX7 155 RX5 yX5_look wsX5_look) := goodIn_app (goodIn_of _ (by decide +kernel)) ggX7_link_X5_look
theorem dX7_link_0 : decode cX7_link 0 = .ok (.aload_n 0, 1) := by decide +kernel
theorem dX7_link_1 : decode cX7_link 1 = .ok (.getfield 19, 3) := by decide +kernel
theorem dX7_link_4 : decode cX7_link 4 = .ok (.iload_n 1, 1) := by decide +kernel
theorem dX7_link_5 : decode cX7_link 5 = .ok (.iload_n 2, 1) := by decide +kernel
theorem dX7_link_6 : decode cX7_link 6 = .ok (.invokevirtual 78, 3) := by decide +kernel
theorem dX7_link_9 : decode cX7_link 9 = .ok (.astore 4, 2) := by decide +kernel
theorem dX7_link_11 : decode cX7_link 11 = .ok (.aload 4, 2) := by decide +kernel
theorem dX7_link_13 : decode cX7_link 13 = .ok (.ifnonnull 7, 3) := by decide +kernel
theorem dX7_link_16 : decode cX7_link 16 = .ok (.iconst (-1), 1) := by decide +kernel
theorem dX7_link_17 : decode cX7_link 17 = .ok (.goto 9, 3) := by decide +kernel
theorem dX7_link_20 : decode cX7_link 20 = .ok (.aload 4, 2) := by decide +kernel
theorem dX7_link_22 : decode cX7_link 22 = .ok (.iload_n 3, 1) := by decide +kernel
theorem dX7_link_23 : decode cX7_link 23 = .ok (.invokevirtual 155, 3) := by decide +kernel
theorem dX7_link_26 : decode cX7_link 26 = .ok (.ireturn, 1) := by decide +kernel
set_option maxRecDepth 20000 in
theorem ggX7_bundle_X4_endOf : GoodIn wsX7_bundle wsX4_endOf := goodIn_r _ [6, 7, 8, 30, 31, 32, 33, 34, 35, 36] (by decide +kernel) (by decide +kernel)
set_option maxRecDepth 20000 in
theorem gX7_bundle_X4_endOf : GoodIn wsX7_bundle (wsV RX7 108 RX4 yX4_endOf wsX4_endOf) := goodIn_app (goodIn_of _ (by decide +kernel)) ggX7_bundle_X4_endOf
set_option maxRecDepth 20000 in
theorem ggX7_bundle_X0_bits : GoodIn wsX7_bundle wsX0_bits := goodIn_r _ [13, 14, 15, 16, 17, 18, 19, 20, 21, 22, 23, 37, 38, 39, 40, 41, 42, 43, 44, 45, 46, 47, 48, 49, 50, 51, 52, 53, 54, 55, 56] (by decide +kernel) (by decide +kernel)
set_option maxRecDepth 20000 in
theorem gX7_bundle_X0_bits : GoodIn wsX7_bundle (wsV RX7 158 RX0 yX0_bits wsX0_bits) := goodIn_app (goodIn_of _ (by decide +kernel)) ggX7_bundle_X0_bits
theorem dX7_bundle_0 : decode cX7_bundle 0 = .ok (.aload_n 0, 1) := by decide +kernel
theorem dX7_bundle_1 : decode cX7_bundle 1 = .ok (.getfield 19, 3) := by decide +kernel
theorem dX7_bundle_4 : decode cX7_bundle 4 = .ok (.iload_n 1, 1) := by decide +kernel
theorem dX7_bundle_5 : decode cX7_bundle 5 = .ok (.invokevirtual 108, 3) := by decide +kernel
theorem dX7_bundle_8 : decode cX7_bundle 8 = .ok (.astore_n 3, 1) := by decide +kernel
theorem dX7_bundle_9 : decode cX7_bundle 9 = .ok (.aload_n 3, 1) := by decide +kernel
theorem dX7_bundle_10 : decode cX7_bundle 10 = .ok (.ifnull 12, 3) := by decide +kernel
theorem dX7_bundle_13 : decode cX7_bundle 13 = .ok (.iload_n 2, 1) := by decide +kernel
theorem dX7_bundle_14 : decode cX7_bundle 14 = .ok (.ifCond .lt 8, 3) := by decide +kernel
theorem dX7_bundle_17 : decode cX7_bundle 17 = .ok (.iload_n 2, 1) := by decide +kernel
theorem dX7_bundle_18 : decode cX7_bundle 18 = .ok (.iconst 2, 1) := by decide +kernel
theorem dX7_bundle_19 : decode cX7_bundle 19 = .ok (.if_icmp .le 7, 3) := by decide +kernel
theorem dX7_bundle_22 : decode cX7_bundle 22 = .ok (.iconst (-1), 1) := by decide +kernel
theorem dX7_bundle_23 : decode cX7_bundle 23 = .ok (.goto 8, 3) := by decide +kernel
theorem dX7_bundle_26 : decode cX7_bundle 26 = .ok (.aload_n 3, 1) := by decide +kernel
theorem dX7_bundle_27 : decode cX7_bundle 27 = .ok (.iload_n 2, 1) := by decide +kernel
theorem dX7_bundle_28 : decode cX7_bundle 28 = .ok (.invokevirtual 158, 3) := by decide +kernel
theorem dX7_bundle_31 : decode cX7_bundle 31 = .ok (.ireturn, 1) := by decide +kernel
set_option maxRecDepth 20000 in
theorem ggX7_flow_X4_endOf : GoodIn wsX7_flow wsX4_endOf := goodIn_r _ [8, 9, 10, 40, 41, 42, 43, 44, 45, 46] (by decide +kernel) (by decide +kernel)
set_option maxRecDepth 20000 in
theorem gX7_flow_X4_endOf : GoodIn wsX7_flow (wsV RX7 108 RX4 yX4_endOf wsX4_endOf) := goodIn_app (goodIn_of _ (by decide +kernel)) ggX7_flow_X4_endOf
set_option maxRecDepth 20000 in
theorem ggX7_flow_X4_flowOf : GoodIn wsX7_flow wsX4_flowOf := goodIn_r _ [14, 15, 5, 6, 7, 8, 9, 10, 16, 17, 18, 19, 20, 21, 40, 41, 42, 43, 44, 45, 46, 47, 48, 49, 50] (by decide +kernel) (by decide +kernel)
set_option maxRecDepth 20000 in
theorem gX7_flow_X4_flowOf : GoodIn wsX7_flow (wsV RX7 161 RX4 yX4_flowOf wsX4_flowOf) := goodIn_app (goodIn_of _ (by decide +kernel)) ggX7_flow_X4_flowOf
set_option maxRecDepth 20000 in
theorem ggX7_flow_X0_howManySending : GoodIn wsX7_flow wsX0_howManySending := goodIn_r _ [25, 26, 27, 47, 48, 49, 50, 51, 52, 53, 54, 55, 56, 57, 58, 59, 60, 61] (by decide +kernel) (by decide +kernel)
set_option maxRecDepth 20000 in
theorem gX7_flow_X0_howManySending : GoodIn wsX7_flow (wsV RX7 173 RX0 yX0_howManySending wsX0_howManySending) := goodIn_app (goodIn_of _ (by decide +kernel)) ggX7_flow_X0_howManySending
set_option maxRecDepth 20000 in
theorem ggX7_flow_X0_wantedBy : GoodIn wsX7_flow wsX0_wantedBy := goodIn_r _ [31, 26, 27, 47, 48, 49, 50, 51, 52, 53, 54, 55, 56, 57, 58, 59, 60, 61] (by decide +kernel) (by decide +kernel)
set_option maxRecDepth 20000 in
theorem gX7_flow_X0_wantedBy : GoodIn wsX7_flow (wsV RX7 176 RX0 yX0_wantedBy wsX0_wantedBy) := goodIn_app (goodIn_of _ (by decide +kernel)) ggX7_flow_X0_wantedBy
theorem dX7_flow_0 : decode cX7_flow 0 = .ok (.aload_n 0, 1) := by decide +kernel
theorem dX7_flow_1 : decode cX7_flow 1 = .ok (.getfield 19, 3) := by decide +kernel
theorem dX7_flow_4 : decode cX7_flow 4 = .ok (.iload_n 1, 1) := by decide +kernel
theorem dX7_flow_5 : decode cX7_flow 5 = .ok (.invokevirtual 108, 3) := by decide +kernel
theorem dX7_flow_8 : decode cX7_flow 8 = .ok (.astore 4, 2) := by decide +kernel
theorem dX7_flow_10 : decode cX7_flow 10 = .ok (.aload_n 0, 1) := by decide +kernel
theorem dX7_flow_11 : decode cX7_flow 11 = .ok (.getfield 19, 3) := by decide +kernel
theorem dX7_flow_14 : decode cX7_flow 14 = .ok (.iload_n 1, 1) := by decide +kernel
theorem dX7_flow_15 : decode cX7_flow 15 = .ok (.iload_n 2, 1) := by decide +kernel
theorem dX7_flow_16 : decode cX7_flow 16 = .ok (.invokevirtual 161, 3) := by decide +kernel
theorem dX7_flow_19 : decode cX7_flow 19 = .ok (.astore 5, 2) := by decide +kernel
theorem dX7_flow_21 : decode cX7_flow 21 = .ok (.aload 4, 2) := by decide +kernel
theorem dX7_flow_23 : decode cX7_flow 23 = .ok (.ifnull 8, 3) := by decide +kernel
theorem dX7_flow_26 : decode cX7_flow 26 = .ok (.aload 5, 2) := by decide +kernel
theorem dX7_flow_28 : decode cX7_flow 28 = .ok (.ifnonnull 5, 3) := by decide +kernel
theorem dX7_flow_31 : decode cX7_flow 31 = .ok (.iconst (-1), 1) := by decide +kernel
theorem dX7_flow_32 : decode cX7_flow 32 = .ok (.ireturn, 1) := by decide +kernel
theorem dX7_flow_33 : decode cX7_flow 33 = .ok (.iload_n 3, 1) := by decide +kernel
theorem dX7_flow_34 : decode cX7_flow 34 = .ok (.tableswitch 50 0 2 #[26, 32, 38], 26) := by decide +kernel
theorem dX7_flow_60 : decode cX7_flow 60 = .ok (.aload 5, 2) := by decide +kernel
theorem dX7_flow_62 : decode cX7_flow 62 = .ok (.getfield 165, 3) := by decide +kernel
theorem dX7_flow_65 : decode cX7_flow 65 = .ok (.ireturn, 1) := by decide +kernel
theorem dX7_flow_66 : decode cX7_flow 66 = .ok (.aload 5, 2) := by decide +kernel
theorem dX7_flow_68 : decode cX7_flow 68 = .ok (.getfield 170, 3) := by decide +kernel
theorem dX7_flow_71 : decode cX7_flow 71 = .ok (.ireturn, 1) := by decide +kernel
theorem dX7_flow_72 : decode cX7_flow 72 = .ok (.aload 4, 2) := by decide +kernel
theorem dX7_flow_74 : decode cX7_flow 74 = .ok (.iload_n 2, 1) := by decide +kernel
theorem dX7_flow_75 : decode cX7_flow 75 = .ok (.aload 4, 2) := by decide +kernel
theorem dX7_flow_77 : decode cX7_flow 77 = .ok (.invokevirtual 173, 3) := by decide +kernel
theorem dX7_flow_80 : decode cX7_flow 80 = .ok (.invokevirtual 176, 3) := by decide +kernel
theorem dX7_flow_83 : decode cX7_flow 83 = .ok (.ireturn, 1) := by decide +kernel
theorem dX7_flow_84 : decode cX7_flow 84 = .ok (.iconst (-1), 1) := by decide +kernel
theorem dX7_flow_85 : decode cX7_flow 85 = .ok (.ireturn, 1) := by decide +kernel
set_option maxRecDepth 20000 in
theorem ggX7_frame_X4_flowOf : GoodIn wsX7_frame wsX4_flowOf := goodIn_r _ [10, 11, 12, 13, 9, 14, 15, 16, 17, 18, 19, 20, 21, 22, 58, 59, 60, 61, 62, 63, 64, 65, 66, 67, 68] (by decide +kernel) (by decide +kernel)
set_option maxRecDepth 20000 in
theorem gX7_frame_X4_flowOf : GoodIn wsX7_frame (wsV RX7 161 RX4 yX4_flowOf wsX4_flowOf) := goodIn_app (goodIn_of _ (by decide +kernel)) ggX7_frame_X4_flowOf
set_option maxRecDepth 20000 in
theorem ggX7_frame_X4_portOf : GoodIn wsX7_frame wsX4_portOf := goodIn_r _ [26, 27, 11, 12, 13, 9, 14, 15, 16, 28, 29, 30, 20, 31, 32, 58, 59, 60, 61, 62, 63, 64, 65, 66, 67, 68] (by decide +kernel) (by decide +kernel)
set_option maxRecDepth 20000 in
theorem gX7_frame_X4_portOf : GoodIn wsX7_frame (wsV RX7 78 RX4 yX4_portOf wsX4_portOf) := goodIn_app (goodIn_of _ (by decide +kernel)) ggX7_frame_X4_portOf
set_option maxRecDepth 20000 in
theorem ggX7_frame_X7_placeOfFrames : GoodIn wsX7_frame wsX7_placeOfFrames := goodIn_r _ [37, 1, 38, 5, 39, 40, 41, 42, 43, 44, 58, 59, 60, 61, 62, 63, 64] (by decide +kernel) (by decide +kernel)
set_option maxRecDepth 20000 in
theorem gX7_frame_X7_placeOfFrames : GoodIn wsX7_frame (wsV RX7 180 RX7 yX7_placeOfFrames wsX7_placeOfFrames) := goodIn_app (goodIn_of _ (by decide +kernel)) ggX7_frame_X7_placeOfFrames
theorem dX7_frame_0 : decode cX7_frame 0 = .ok (.aload_n 0, 1) := by decide +kernel
theorem dX7_frame_1 : decode cX7_frame 1 = .ok (.getfield 19, 3) := by decide +kernel
theorem dX7_frame_4 : decode cX7_frame 4 = .ok (.iload_n 1, 1) := by decide +kernel
theorem dX7_frame_5 : decode cX7_frame 5 = .ok (.iload_n 2, 1) := by decide +kernel
theorem dX7_frame_6 : decode cX7_frame 6 = .ok (.invokevirtual 161, 3) := by decide +kernel
theorem dX7_frame_9 : decode cX7_frame 9 = .ok (.astore_n 3, 1) := by decide +kernel
theorem dX7_frame_10 : decode cX7_frame 10 = .ok (.aload_n 3, 1) := by decide +kernel
theorem dX7_frame_11 : decode cX7_frame 11 = .ok (.ifnonnull 5, 3) := by decide +kernel
theorem dX7_frame_14 : decode cX7_frame 14 = .ok (.iconst (-1), 1) := by decide +kernel
theorem dX7_frame_15 : decode cX7_frame 15 = .ok (.ireturn, 1) := by decide +kernel
theorem dX7_frame_16 : decode cX7_frame 16 = .ok (.aload_n 3, 1) := by decide +kernel
theorem dX7_frame_17 : decode cX7_frame 17 = .ok (.getfield 170, 3) := by decide +kernel
theorem dX7_frame_20 : decode cX7_frame 20 = .ok (.ifCond .le 6, 3) := by decide +kernel
theorem dX7_frame_23 : decode cX7_frame 23 = .ok (.bipush (-2), 2) := by decide +kernel
theorem dX7_frame_25 : decode cX7_frame 25 = .ok (.ireturn, 1) := by decide +kernel
theorem dX7_frame_26 : decode cX7_frame 26 = .ok (.aload_n 0, 1) := by decide +kernel
theorem dX7_frame_27 : decode cX7_frame 27 = .ok (.getfield 19, 3) := by decide +kernel
theorem dX7_frame_30 : decode cX7_frame 30 = .ok (.iload_n 1, 1) := by decide +kernel
theorem dX7_frame_31 : decode cX7_frame 31 = .ok (.aload_n 3, 1) := by decide +kernel
theorem dX7_frame_32 : decode cX7_frame 32 = .ok (.getfield 165, 3) := by decide +kernel
theorem dX7_frame_35 : decode cX7_frame 35 = .ok (.invokevirtual 78, 3) := by decide +kernel
theorem dX7_frame_38 : decode cX7_frame 38 = .ok (.astore 4, 2) := by decide +kernel
theorem dX7_frame_40 : decode cX7_frame 40 = .ok (.aload_n 0, 1) := by decide +kernel
theorem dX7_frame_41 : decode cX7_frame 41 = .ok (.iload_n 1, 1) := by decide +kernel
theorem dX7_frame_42 : decode cX7_frame 42 = .ok (.aload_n 3, 1) := by decide +kernel
theorem dX7_frame_43 : decode cX7_frame 43 = .ok (.getfield 165, 3) := by decide +kernel
theorem dX7_frame_46 : decode cX7_frame 46 = .ok (.invokevirtual 180, 3) := by decide +kernel
theorem dX7_frame_49 : decode cX7_frame 49 = .ok (.istore 5, 2) := by decide +kernel
theorem dX7_frame_51 : decode cX7_frame 51 = .ok (.aload 4, 2) := by decide +kernel
theorem dX7_frame_53 : decode cX7_frame 53 = .ok (.ifnull 19, 3) := by decide +kernel
theorem dX7_frame_56 : decode cX7_frame 56 = .ok (.aload 4, 2) := by decide +kernel
theorem dX7_frame_58 : decode cX7_frame 58 = .ok (.getfield 183, 3) := by decide +kernel
theorem dX7_frame_61 : decode cX7_frame 61 = .ok (.iconst 5, 1) := by decide +kernel
theorem dX7_frame_62 : decode cX7_frame 62 = .ok (.if_icmp .ne 10, 3) := by decide +kernel
theorem dX7_frame_65 : decode cX7_frame 65 = .ok (.iload 5, 2) := by decide +kernel
theorem dX7_frame_67 : decode cX7_frame 67 = .ok (.bipush (-4), 2) := by decide +kernel
theorem dX7_frame_69 : decode cX7_frame 69 = .ok (.if_icmp .ne 6, 3) := by decide +kernel
theorem dX7_frame_72 : decode cX7_frame 72 = .ok (.bipush (-4), 2) := by decide +kernel
theorem dX7_frame_74 : decode cX7_frame 74 = .ok (.ireturn, 1) := by decide +kernel
theorem dX7_frame_75 : decode cX7_frame 75 = .ok (.aload_n 0, 1) := by decide +kernel
theorem dX7_frame_76 : decode cX7_frame 76 = .ok (.getfield 30, 3) := by decide +kernel
theorem dX7_frame_79 : decode cX7_frame 79 = .ok (.iload 5, 2) := by decide +kernel
theorem dX7_frame_81 : decode cX7_frame 81 = .ok (.dup2, 1) := by decide +kernel
theorem dX7_frame_82 : decode cX7_frame 82 = .ok (.iaload, 1) := by decide +kernel
theorem dX7_frame_83 : decode cX7_frame 83 = .ok (.iconst 1, 1) := by decide +kernel
theorem dX7_frame_84 : decode cX7_frame 84 = .ok (.iadd, 1) := by decide +kernel
theorem dX7_frame_85 : decode cX7_frame 85 = .ok (.iastore, 1) := by decide +kernel
theorem dX7_frame_86 : decode cX7_frame 86 = .ok (.aload_n 3, 1) := by decide +kernel
theorem dX7_frame_87 : decode cX7_frame 87 = .ok (.getfield 165, 3) := by decide +kernel
theorem dX7_frame_90 : decode cX7_frame 90 = .ok (.ireturn, 1) := by decide +kernel
set_option maxRecDepth 20000 in
theorem ggX7_frames_X7_placeOfFrames : GoodIn wsX7_frames wsX7_placeOfFrames := goodIn_r _ [6, 7, 8, 1, 9, 10, 11, 12, 13, 14, 15, 16, 17, 18, 19, 20, 21] (by decide +kernel) (by decide +kernel)
set_option maxRecDepth 20000 in
theorem gX7_frames_X7_placeOfFrames : GoodIn wsX7_frames (wsV RX7 180 RX7 yX7_placeOfFrames wsX7_placeOfFrames) := goodIn_app (goodIn_of _ (by decide +kernel)) ggX7_frames_X7_placeOfFrames
theorem dX7_frames_0 : decode cX7_frames 0 = .ok (.aload_n 0, 1) := by decide +kernel
theorem dX7_frames_1 : decode cX7_frames 1 = .ok (.iload_n 1, 1) := by decide +kernel
theorem dX7_frames_2 : decode cX7_frames 2 = .ok (.iload_n 2, 1) := by decide +kernel
theorem dX7_frames_3 : decode cX7_frames 3 = .ok (.invokevirtual 180, 3) := by decide +kernel
theorem dX7_frames_6 : decode cX7_frames 6 = .ok (.istore_n 3, 1) := by decide +kernel
theorem dX7_frames_7 : decode cX7_frames 7 = .ok (.iload_n 3, 1) := by decide +kernel
theorem dX7_frames_8 : decode cX7_frames 8 = .ok (.bipush (-4), 2) := by decide +kernel
theorem dX7_frames_10 : decode cX7_frames 10 = .ok (.if_icmp .ne 7, 3) := by decide +kernel
theorem dX7_frames_13 : decode cX7_frames 13 = .ok (.iconst (-1), 1) := by decide +kernel
theorem dX7_frames_14 : decode cX7_frames 14 = .ok (.goto 9, 3) := by decide +kernel
theorem dX7_frames_17 : decode cX7_frames 17 = .ok (.aload_n 0, 1) := by decide +kernel
theorem dX7_frames_18 : decode cX7_frames 18 = .ok (.getfield 30, 3) := by decide +kernel
theorem dX7_frames_21 : decode cX7_frames 21 = .ok (.iload_n 3, 1) := by decide +kernel
theorem dX7_frames_22 : decode cX7_frames 22 = .ok (.iaload, 1) := by decide +kernel
theorem dX7_frames_23 : decode cX7_frames 23 = .ok (.ireturn, 1) := by decide +kernel
set_option maxRecDepth 20000 in
theorem ggX7_agreed_X0_bits : GoodIn wsX7_agreed wsX0_bits := goodIn_r _ [8, 9, 10, 11, 12, 13, 14, 15, 16, 17, 18, 32, 33, 34, 35, 36, 37, 38, 39, 40, 41, 42, 43, 44, 45, 46, 47, 48, 49, 50, 51] (by decide +kernel) (by decide +kernel)
set_option maxRecDepth 20000 in
theorem gX7_agreed_X0_bits : GoodIn wsX7_agreed (wsV RX7 158 RX0 yX0_bits wsX0_bits) := goodIn_app (goodIn_of _ (by decide +kernel)) ggX7_agreed_X0_bits
theorem dX7_agreed_0 : decode cX7_agreed 0 = .ok (.aload_n 0, 1) := by decide +kernel
theorem dX7_agreed_1 : decode cX7_agreed 1 = .ok (.getfield 19, 3) := by decide +kernel
theorem dX7_agreed_4 : decode cX7_agreed 4 = .ok (.getfield 99, 3) := by decide +kernel
theorem dX7_agreed_7 : decode cX7_agreed 7 = .ok (.iconst 2, 1) := by decide +kernel
theorem dX7_agreed_8 : decode cX7_agreed 8 = .ok (.invokevirtual 158, 3) := by decide +kernel
theorem dX7_agreed_11 : decode cX7_agreed 11 = .ok (.istore_n 1, 1) := by decide +kernel
theorem dX7_agreed_12 : decode cX7_agreed 12 = .ok (.iload_n 1, 1) := by decide +kernel
theorem dX7_agreed_13 : decode cX7_agreed 13 = .ok (.ifCond .eq 22, 3) := by decide +kernel
theorem dX7_agreed_16 : decode cX7_agreed 16 = .ok (.iload_n 1, 1) := by decide +kernel
theorem dX7_agreed_17 : decode cX7_agreed 17 = .ok (.aload_n 0, 1) := by decide +kernel
theorem dX7_agreed_18 : decode cX7_agreed 18 = .ok (.getfield 19, 3) := by decide +kernel
theorem dX7_agreed_21 : decode cX7_agreed 21 = .ok (.getfield 186, 3) := by decide +kernel
theorem dX7_agreed_24 : decode cX7_agreed 24 = .ok (.iconst 2, 1) := by decide +kernel
theorem dX7_agreed_25 : decode cX7_agreed 25 = .ok (.invokevirtual 158, 3) := by decide +kernel
theorem dX7_agreed_28 : decode cX7_agreed 28 = .ok (.if_icmp .ne 7, 3) := by decide +kernel
theorem dX7_agreed_31 : decode cX7_agreed 31 = .ok (.iconst 1, 1) := by decide +kernel
theorem dX7_agreed_32 : decode cX7_agreed 32 = .ok (.goto 4, 3) := by decide +kernel
theorem dX7_agreed_35 : decode cX7_agreed 35 = .ok (.iconst 0, 1) := by decide +kernel
theorem dX7_agreed_36 : decode cX7_agreed 36 = .ok (.ireturn, 1) := by decide +kernel
set_option maxRecDepth 20000 in
theorem ggX7_settled_X4_copyFrom : GoodIn wsX7_settled wsX4_copyFrom := goodIn_r _ [8, 9, 10, 11, 12, 13, 14, 15, 16, 17, 18, 19, 20, 21, 22, 23, 24, 25, 26, 27, 28, 29, 30, 31, 32, 33, 34, 35, 36, 37, 38, 39, 40, 41, 42, 43, 44, 45, 46, 47, 48, 49, 50, 51, 52, 53, 54, 55, 56, 152, 153, 154, 155, 156, 157, 158, 159, 160, 161, 162, 163, 164, 165, 166, 167, 168, 169, 170, 171, 172, 173, 174, 175, 176, 177, 178, 179, 180] (by decide +kernel) (by decide +kernel)
set_option maxRecDepth 20000 in
theorem gX7_settled_X4_copyFrom : GoodIn wsX7_settled (wsV RX7 151 RX4 yX4_copyFrom wsX4_copyFrom) := goodIn_app (goodIn_of _ (by decide +kernel)) ggX7_settled_X4_copyFrom
set_option maxRecDepth 20000 in
theorem ggX7_settled_X4_step : GoodIn wsX7_settled wsX4_step := goodIn_r _ [60, 9, 10, 15, 61, 62, 63, 19, 64, 22, 65, 66, 67, 68, 27, 69, 29, 33, 70, 35, 40, 41, 42, 43, 44, 45, 46, 47, 48, 49, 71, 72, 73, 7, 74, 12, 13, 14, 75, 76, 77, 78, 79, 80, 81, 82, 83, 84, 85, 86, 87, 21, 88, 89, 90, 91, 92, 93, 94, 95, 31, 96, 97, 98, 99, 100, 32, 101, 102, 103, 104, 105, 106, 107, 108, 109, 37, 38, 36, 39, 110, 111, 112, 113, 114, 115, 116, 117, 118, 34, 30, 119, 120, 121, 122, 123, 23, 124, 125, 126, 127, 128, 129, 130, 131, 132, 133, 134, 135, 53, 136, 56, 55, 152, 153, 154, 155, 156, 157, 158, 159, 160, 161, 162, 163, 164, 165, 166, 167, 168, 169, 170, 171, 172, 173, 174, 175, 176, 177, 178, 179, 180] (by decide +kernel) (by decide +kernel)
set_option maxRecDepth 20000 in
theorem gX7_settled_X4_step : GoodIn wsX7_settled (wsV RX7 141 RX4 yX4_step wsX4_step) := goodIn_app (goodIn_of _ (by decide +kernel)) ggX7_settled_X4_step
set_option maxRecDepth 20000 in
theorem ggX7_settled_X4_looksLike : GoodIn wsX7_settled wsX4_looksLike := goodIn_r _ [140, 9, 10, 141, 142, 143, 19, 144, 22, 128, 23, 145, 152, 153, 154, 155, 156, 157, 158, 159, 160, 161, 162, 163, 164, 165, 166, 167, 168, 169, 170, 171, 172, 173, 179, 180] (by decide +kernel) (by decide +kernel)
set_option maxRecDepth 20000 in
theorem gX7_settled_X4_looksLike : GoodIn wsX7_settled (wsV RX7 189 RX4 yX4_looksLike wsX4_looksLike) := goodIn_app (goodIn_of _ (by decide +kernel)) ggX7_settled_X4_looksLike
theorem dX7_settled_0 : decode cX7_settled 0 = .ok (.aload_n 0, 1) := by decide +kernel
theorem dX7_settled_1 : decode cX7_settled 1 = .ok (.getfield 34, 3) := by decide +kernel
theorem dX7_settled_4 : decode cX7_settled 4 = .ok (.aload_n 0, 1) := by decide +kernel
theorem dX7_settled_5 : decode cX7_settled 5 = .ok (.getfield 19, 3) := by decide +kernel
theorem dX7_settled_8 : decode cX7_settled 8 = .ok (.invokevirtual 151, 3) := by decide +kernel
theorem dX7_settled_11 : decode cX7_settled 11 = .ok (.aload_n 0, 1) := by decide +kernel
theorem dX7_settled_12 : decode cX7_settled 12 = .ok (.getfield 37, 3) := by decide +kernel
theorem dX7_settled_15 : decode cX7_settled 15 = .ok (.aload_n 0, 1) := by decide +kernel
theorem dX7_settled_16 : decode cX7_settled 16 = .ok (.getfield 19, 3) := by decide +kernel
theorem dX7_settled_19 : decode cX7_settled 19 = .ok (.invokevirtual 151, 3) := by decide +kernel
theorem dX7_settled_22 : decode cX7_settled 22 = .ok (.iconst 0, 1) := by decide +kernel
theorem dX7_settled_23 : decode cX7_settled 23 = .ok (.istore_n 1, 1) := by decide +kernel
theorem dX7_settled_24 : decode cX7_settled 24 = .ok (.iconst 1, 1) := by decide +kernel
theorem dX7_settled_25 : decode cX7_settled 25 = .ok (.istore_n 2, 1) := by decide +kernel
theorem dX7_settled_26 : decode cX7_settled 26 = .ok (.iload_n 2, 1) := by decide +kernel
theorem dX7_settled_27 : decode cX7_settled 27 = .ok (.bipush 46, 2) := by decide +kernel
theorem dX7_settled_29 : decode cX7_settled 29 = .ok (.if_icmp .gt 56, 3) := by decide +kernel
theorem dX7_settled_32 : decode cX7_settled 32 = .ok (.aload_n 0, 1) := by decide +kernel
theorem dX7_settled_33 : decode cX7_settled 33 = .ok (.getfield 34, 3) := by decide +kernel
theorem dX7_settled_36 : decode cX7_settled 36 = .ok (.invokevirtual 141, 3) := by decide +kernel
theorem dX7_settled_39 : decode cX7_settled 39 = .ok (.aload_n 0, 1) := by decide +kernel
theorem dX7_settled_40 : decode cX7_settled 40 = .ok (.getfield 34, 3) := by decide +kernel
theorem dX7_settled_43 : decode cX7_settled 43 = .ok (.aload_n 0, 1) := by decide +kernel
theorem dX7_settled_44 : decode cX7_settled 44 = .ok (.getfield 37, 3) := by decide +kernel
theorem dX7_settled_47 : decode cX7_settled 47 = .ok (.invokevirtual 189, 3) := by decide +kernel
theorem dX7_settled_50 : decode cX7_settled 50 = .ok (.ifCond .ne 19, 3) := by decide +kernel
theorem dX7_settled_53 : decode cX7_settled 53 = .ok (.aload_n 0, 1) := by decide +kernel
theorem dX7_settled_54 : decode cX7_settled 54 = .ok (.getfield 37, 3) := by decide +kernel
theorem dX7_settled_57 : decode cX7_settled 57 = .ok (.aload_n 0, 1) := by decide +kernel
theorem dX7_settled_58 : decode cX7_settled 58 = .ok (.getfield 34, 3) := by decide +kernel
theorem dX7_settled_61 : decode cX7_settled 61 = .ok (.invokevirtual 151, 3) := by decide +kernel
theorem dX7_settled_64 : decode cX7_settled 64 = .ok (.iload_n 2, 1) := by decide +kernel
theorem dX7_settled_65 : decode cX7_settled 65 = .ok (.istore_n 1, 1) := by decide +kernel
theorem dX7_settled_66 : decode cX7_settled 66 = .ok (.goto 13, 3) := by decide +kernel
theorem dX7_settled_69 : decode cX7_settled 69 = .ok (.iload_n 2, 1) := by decide +kernel
theorem dX7_settled_70 : decode cX7_settled 70 = .ok (.iload_n 1, 1) := by decide +kernel
theorem dX7_settled_71 : decode cX7_settled 71 = .ok (.isub, 1) := by decide +kernel
theorem dX7_settled_72 : decode cX7_settled 72 = .ok (.bipush 6, 2) := by decide +kernel
theorem dX7_settled_74 : decode cX7_settled 74 = .ok (.if_icmp .lt 5, 3) := by decide +kernel
theorem dX7_settled_77 : decode cX7_settled 77 = .ok (.iload_n 1, 1) := by decide +kernel
theorem dX7_settled_78 : decode cX7_settled 78 = .ok (.ireturn, 1) := by decide +kernel
theorem dX7_settled_79 : decode cX7_settled 79 = .ok (.iinc 2 1, 3) := by decide +kernel
theorem dX7_settled_82 : decode cX7_settled 82 = .ok (.goto (-56), 3) := by decide +kernel
theorem dX7_settled_85 : decode cX7_settled 85 = .ok (.bipush (-4), 2) := by decide +kernel
theorem dX7_settled_87 : decode cX7_settled 87 = .ok (.ireturn, 1) := by decide +kernel
set_option maxRecDepth 20000 in
theorem ggX7_count_X0_howManyUp : GoodIn wsX7_count wsX0_howManyUp := goodIn_r _ [15, 16, 17, 45, 46, 47, 48, 49, 50, 51, 52, 53, 54, 55, 56, 57, 58, 59] (by decide +kernel) (by decide +kernel)
set_option maxRecDepth 20000 in
theorem gX7_count_X0_howManyUp : GoodIn wsX7_count (wsV RX7 103 RX0 yX0_howManyUp wsX0_howManyUp) := goodIn_app (goodIn_of _ (by decide +kernel)) ggX7_count_X0_howManyUp
set_option maxRecDepth 20000 in
theorem ggX7_count_X4_setting : GoodIn wsX7_count wsX4_setting := goodIn_r _ [22, 23, 24, 25, 26, 33, 34, 35, 36, 37, 38, 39, 45, 46, 47, 48] (by decide +kernel) (by decide +kernel)
set_option maxRecDepth 20000 in
theorem gX7_count_X4_setting : GoodIn wsX7_count (wsV RX7 130 RX4 yX4_setting wsX4_setting) := goodIn_app (goodIn_of _ (by decide +kernel)) ggX7_count_X4_setting
theorem dX7_count_0 : decode cX7_count 0 = .ok (.iload_n 1, 1) := by decide +kernel
theorem dX7_count_1 : decode cX7_count 1 = .ok (.tableswitch 141 0 9 #[55, 63, 74, 83, 92, 101, 109, 117, 125, 133], 55) := by decide +kernel
theorem dX7_count_56 : decode cX7_count 56 = .ok (.aload_n 0, 1) := by decide +kernel
theorem dX7_count_57 : decode cX7_count 57 = .ok (.getfield 19, 3) := by decide +kernel
theorem dX7_count_60 : decode cX7_count 60 = .ok (.getfield 75, 3) := by decide +kernel
theorem dX7_count_63 : decode cX7_count 63 = .ok (.ireturn, 1) := by decide +kernel
theorem dX7_count_64 : decode cX7_count 64 = .ok (.aload_n 0, 1) := by decide +kernel
theorem dX7_count_65 : decode cX7_count 65 = .ok (.getfield 19, 3) := by decide +kernel
theorem dX7_count_68 : decode cX7_count 68 = .ok (.getfield 99, 3) := by decide +kernel
theorem dX7_count_71 : decode cX7_count 71 = .ok (.invokevirtual 103, 3) := by decide +kernel
theorem dX7_count_74 : decode cX7_count 74 = .ok (.ireturn, 1) := by decide +kernel
theorem dX7_count_75 : decode cX7_count 75 = .ok (.aload_n 0, 1) := by decide +kernel
theorem dX7_count_76 : decode cX7_count 76 = .ok (.getfield 19, 3) := by decide +kernel
theorem dX7_count_79 : decode cX7_count 79 = .ok (.iconst 0, 1) := by decide +kernel
theorem dX7_count_80 : decode cX7_count 80 = .ok (.invokevirtual 130, 3) := by decide +kernel
theorem dX7_count_83 : decode cX7_count 83 = .ok (.ireturn, 1) := by decide +kernel
theorem dX7_count_84 : decode cX7_count 84 = .ok (.aload_n 0, 1) := by decide +kernel
theorem dX7_count_85 : decode cX7_count 85 = .ok (.getfield 19, 3) := by decide +kernel
theorem dX7_count_88 : decode cX7_count 88 = .ok (.iconst 1, 1) := by decide +kernel
theorem dX7_count_89 : decode cX7_count 89 = .ok (.invokevirtual 130, 3) := by decide +kernel
theorem dX7_count_92 : decode cX7_count 92 = .ok (.ireturn, 1) := by decide +kernel
theorem dX7_count_93 : decode cX7_count 93 = .ok (.aload_n 0, 1) := by decide +kernel
theorem dX7_count_94 : decode cX7_count 94 = .ok (.getfield 19, 3) := by decide +kernel
theorem dX7_count_97 : decode cX7_count 97 = .ok (.iconst 2, 1) := by decide +kernel
theorem dX7_count_98 : decode cX7_count 98 = .ok (.invokevirtual 130, 3) := by decide +kernel
theorem dX7_count_101 : decode cX7_count 101 = .ok (.ireturn, 1) := by decide +kernel
theorem dX7_count_102 : decode cX7_count 102 = .ok (.aload_n 0, 1) := by decide +kernel
theorem dX7_count_103 : decode cX7_count 103 = .ok (.getfield 19, 3) := by decide +kernel
theorem dX7_count_106 : decode cX7_count 106 = .ok (.getfield 193, 3) := by decide +kernel
theorem dX7_count_109 : decode cX7_count 109 = .ok (.ireturn, 1) := by decide +kernel
theorem dX7_count_110 : decode cX7_count 110 = .ok (.aload_n 0, 1) := by decide +kernel
theorem dX7_count_111 : decode cX7_count 111 = .ok (.getfield 19, 3) := by decide +kernel
theorem dX7_count_114 : decode cX7_count 114 = .ok (.getfield 196, 3) := by decide +kernel
theorem dX7_count_117 : decode cX7_count 117 = .ok (.ireturn, 1) := by decide +kernel
