theorem dX0_init_41 : decode cX0_init 41 = .ok (.aastore, 1) := by decide +kernel
theorem dX0_init_42 : decode cX0_init 42 = .ok (.iinc 2 1, 3) := by decide +kernel
theorem dX0_init_45 : decode cX0_init 45 = .ok (.goto (-25), 3) := by decide +kernel
theorem dX0_init_48 : decode cX0_init 48 = .ok (.aload_n 0, 1) := by decide +kernel
theorem dX0_init_49 : decode cX0_init 49 = .ok (.bipush 8, 2) := by decide +kernel
theorem dX0_init_51 : decode cX0_init 51 = .ok (.anewarray 22, 3) := by decide +kernel
theorem dX0_init_54 : decode cX0_init 54 = .ok (.putfield 24, 3) := by decide +kernel
theorem dX0_init_57 : decode cX0_init 57 = .ok (.iconst 0, 1) := by decide +kernel
theorem dX0_init_58 : decode cX0_init 58 = .ok (.istore_n 2, 1) := by decide +kernel
theorem dX0_init_59 : decode cX0_init 59 = .ok (.iload_n 2, 1) := by decide +kernel
theorem dX0_init_60 : decode cX0_init 60 = .ok (.aload_n 0, 1) := by decide +kernel
theorem dX0_init_61 : decode cX0_init 61 = .ok (.getfield 24, 3) := by decide +kernel
theorem dX0_init_64 : decode cX0_init 64 = .ok (.arraylength, 1) := by decide +kernel
theorem dX0_init_65 : decode cX0_init 65 = .ok (.if_icmp .ge 22, 3) := by decide +kernel
theorem dX0_init_68 : decode cX0_init 68 = .ok (.aload_n 0, 1) := by decide +kernel
theorem dX0_init_69 : decode cX0_init 69 = .ok (.getfield 24, 3) := by decide +kernel
theorem dX0_init_72 : decode cX0_init 72 = .ok (.iload_n 2, 1) := by decide +kernel
theorem dX0_init_73 : decode cX0_init 73 = .ok (.new 22, 3) := by decide +kernel
theorem dX0_init_76 : decode cX0_init 76 = .ok (.dup, 1) := by decide +kernel
theorem dX0_init_77 : decode cX0_init 77 = .ok (.invokespecial 28, 3) := by decide +kernel
theorem dX0_init_80 : decode cX0_init 80 = .ok (.aastore, 1) := by decide +kernel
theorem dX0_init_81 : decode cX0_init 81 = .ok (.iinc 2 1, 3) := by decide +kernel
theorem dX0_init_84 : decode cX0_init 84 = .ok (.goto (-25), 3) := by decide +kernel
theorem dX0_init_87 : decode cX0_init 87 = .ok (.return_, 1) := by decide +kernel
set_option maxRecDepth 20000 in
theorem ggX0_clear_X5_clear : GoodIn wsX0_clear wsX5_clear := goodIn_r _ [8, 9, 10, 11, 12, 13, 14, 15, 16, 17, 18, 19, 20, 21, 22, 23, 24, 25, 26, 27, 28, 29, 41, 42, 43, 44, 45, 46, 47, 48, 49, 50, 51, 52, 53, 54, 55, 56] (by decide +kernel) (by decide +kernel)
set_option maxRecDepth 20000 in
theorem gX0_clear_X5_clear : GoodIn wsX0_clear (wsV RX0 32 RX5 yX5_clear wsX5_clear) := goodIn_app (goodIn_of _ (by decide +kernel)) ggX0_clear_X5_clear
set_option maxRecDepth 20000 in
theorem ggX0_clear_X1_clear : GoodIn wsX0_clear wsX1_clear := goodIn_r _ [34, 35, 36, 57, 58] (by decide +kernel) (by decide +kernel)
set_option maxRecDepth 20000 in
theorem gX0_clear_X1_clear : GoodIn wsX0_clear (wsV RX0 35 RX1 yX1_clear wsX1_clear) := goodIn_app (goodIn_of _ (by decide +kernel)) ggX0_clear_X1_clear
theorem dX0_clear_0 : decode cX0_clear 0 = .ok (.aload_n 0, 1) := by decide +kernel
theorem dX0_clear_1 : decode cX0_clear 1 = .ok (.iconst 5, 1) := by decide +kernel
theorem dX0_clear_2 : decode cX0_clear 2 = .ok (.putfield 29, 3) := by decide +kernel
theorem dX0_clear_5 : decode cX0_clear 5 = .ok (.aload_n 0, 1) := by decide +kernel
theorem dX0_clear_6 : decode cX0_clear 6 = .ok (.getfield 17, 3) := by decide +kernel
theorem dX0_clear_9 : decode cX0_clear 9 = .ok (.astore_n 1, 1) := by decide +kernel
theorem dX0_clear_10 : decode cX0_clear 10 = .ok (.aload_n 1, 1) := by decide +kernel
theorem dX0_clear_11 : decode cX0_clear 11 = .ok (.arraylength, 1) := by decide +kernel
theorem dX0_clear_12 : decode cX0_clear 12 = .ok (.istore_n 2, 1) := by decide +kernel
theorem dX0_clear_13 : decode cX0_clear 13 = .ok (.iconst 0, 1) := by decide +kernel
theorem dX0_clear_14 : decode cX0_clear 14 = .ok (.istore_n 3, 1) := by decide +kernel
theorem dX0_clear_15 : decode cX0_clear 15 = .ok (.iload_n 3, 1) := by decide +kernel
theorem dX0_clear_16 : decode cX0_clear 16 = .ok (.iload_n 2, 1) := by decide +kernel
theorem dX0_clear_17 : decode cX0_clear 17 = .ok (.if_icmp .ge 19, 3) := by decide +kernel
theorem dX0_clear_20 : decode cX0_clear 20 = .ok (.aload_n 1, 1) := by decide +kernel
theorem dX0_clear_21 : decode cX0_clear 21 = .ok (.iload_n 3, 1) := by decide +kernel
theorem dX0_clear_22 : decode cX0_clear 22 = .ok (.aaload, 1) := by decide +kernel
theorem dX0_clear_23 : decode cX0_clear 23 = .ok (.astore 4, 2) := by decide +kernel
theorem dX0_clear_25 : decode cX0_clear 25 = .ok (.aload 4, 2) := by decide +kernel
theorem dX0_clear_27 : decode cX0_clear 27 = .ok (.invokevirtual 32, 3) := by decide +kernel
theorem dX0_clear_30 : decode cX0_clear 30 = .ok (.iinc 3 1, 3) := by decide +kernel
theorem dX0_clear_33 : decode cX0_clear 33 = .ok (.goto (-18), 3) := by decide +kernel
theorem dX0_clear_36 : decode cX0_clear 36 = .ok (.aload_n 0, 1) := by decide +kernel
theorem dX0_clear_37 : decode cX0_clear 37 = .ok (.getfield 24, 3) := by decide +kernel
theorem dX0_clear_40 : decode cX0_clear 40 = .ok (.astore_n 1, 1) := by decide +kernel
theorem dX0_clear_41 : decode cX0_clear 41 = .ok (.aload_n 1, 1) := by decide +kernel
theorem dX0_clear_42 : decode cX0_clear 42 = .ok (.arraylength, 1) := by decide +kernel
theorem dX0_clear_43 : decode cX0_clear 43 = .ok (.istore_n 2, 1) := by decide +kernel
theorem dX0_clear_44 : decode cX0_clear 44 = .ok (.iconst 0, 1) := by decide +kernel
theorem dX0_clear_45 : decode cX0_clear 45 = .ok (.istore_n 3, 1) := by decide +kernel
theorem dX0_clear_46 : decode cX0_clear 46 = .ok (.iload_n 3, 1) := by decide +kernel
theorem dX0_clear_47 : decode cX0_clear 47 = .ok (.iload_n 2, 1) := by decide +kernel
theorem dX0_clear_48 : decode cX0_clear 48 = .ok (.if_icmp .ge 19, 3) := by decide +kernel
theorem dX0_clear_51 : decode cX0_clear 51 = .ok (.aload_n 1, 1) := by decide +kernel
theorem dX0_clear_52 : decode cX0_clear 52 = .ok (.iload_n 3, 1) := by decide +kernel
theorem dX0_clear_53 : decode cX0_clear 53 = .ok (.aaload, 1) := by decide +kernel
theorem dX0_clear_54 : decode cX0_clear 54 = .ok (.astore 4, 2) := by decide +kernel
theorem dX0_clear_56 : decode cX0_clear 56 = .ok (.aload 4, 2) := by decide +kernel
theorem dX0_clear_58 : decode cX0_clear 58 = .ok (.invokevirtual 35, 3) := by decide +kernel
theorem dX0_clear_61 : decode cX0_clear 61 = .ok (.iinc 3 1, 3) := by decide +kernel
theorem dX0_clear_64 : decode cX0_clear 64 = .ok (.goto (-18), 3) := by decide +kernel
theorem dX0_clear_67 : decode cX0_clear 67 = .ok (.return_, 1) := by decide +kernel
set_option maxRecDepth 20000 in
theorem ggX0_copyFrom_X5_copyFrom : GoodIn wsX0_copyFrom wsX5_copyFrom := goodIn_r _ [8, 9, 10, 11, 12, 13, 14, 15, 16, 17, 18, 19, 20, 21, 22, 23, 24, 25, 26, 27, 28, 29, 41, 42, 43, 44, 45, 46, 47, 48, 49, 50, 51, 52, 53, 54, 55, 56] (by decide +kernel) (by decide +kernel)
set_option maxRecDepth 20000 in
theorem gX0_copyFrom_X5_copyFrom : GoodIn wsX0_copyFrom (wsV RX0 36 RX5 yX5_copyFrom wsX5_copyFrom) := goodIn_app (goodIn_of _ (by decide +kernel)) ggX0_copyFrom_X5_copyFrom
set_option maxRecDepth 20000 in
theorem ggX0_copyFrom_X1_copyFrom : GoodIn wsX0_copyFrom wsX1_copyFrom := goodIn_r _ [34, 35, 36, 57, 58] (by decide +kernel) (by decide +kernel)
set_option maxRecDepth 20000 in
theorem gX0_copyFrom_X1_copyFrom : GoodIn wsX0_copyFrom (wsV RX0 40 RX1 yX1_copyFrom wsX1_copyFrom) := goodIn_app (goodIn_of _ (by decide +kernel)) ggX0_copyFrom_X1_copyFrom
theorem dX0_copyFrom_0 : decode cX0_copyFrom 0 = .ok (.aload_n 0, 1) := by decide +kernel
theorem dX0_copyFrom_1 : decode cX0_copyFrom 1 = .ok (.aload_n 1, 1) := by decide +kernel
theorem dX0_copyFrom_2 : decode cX0_copyFrom 2 = .ok (.getfield 29, 3) := by decide +kernel
theorem dX0_copyFrom_5 : decode cX0_copyFrom 5 = .ok (.putfield 29, 3) := by decide +kernel
theorem dX0_copyFrom_8 : decode cX0_copyFrom 8 = .ok (.iconst 0, 1) := by decide +kernel
theorem dX0_copyFrom_9 : decode cX0_copyFrom 9 = .ok (.istore_n 2, 1) := by decide +kernel
theorem dX0_copyFrom_10 : decode cX0_copyFrom 10 = .ok (.iload_n 2, 1) := by decide +kernel
theorem dX0_copyFrom_11 : decode cX0_copyFrom 11 = .ok (.aload_n 0, 1) := by decide +kernel
theorem dX0_copyFrom_12 : decode cX0_copyFrom 12 = .ok (.getfield 17, 3) := by decide +kernel
theorem dX0_copyFrom_15 : decode cX0_copyFrom 15 = .ok (.arraylength, 1) := by decide +kernel
theorem dX0_copyFrom_16 : decode cX0_copyFrom 16 = .ok (.if_icmp .ge 33, 3) := by decide +kernel
theorem dX0_copyFrom_19 : decode cX0_copyFrom 19 = .ok (.iload_n 2, 1) := by decide +kernel
theorem dX0_copyFrom_20 : decode cX0_copyFrom 20 = .ok (.aload_n 1, 1) := by decide +kernel
theorem dX0_copyFrom_21 : decode cX0_copyFrom 21 = .ok (.getfield 17, 3) := by decide +kernel
theorem dX0_copyFrom_24 : decode cX0_copyFrom 24 = .ok (.arraylength, 1) := by decide +kernel
theorem dX0_copyFrom_25 : decode cX0_copyFrom 25 = .ok (.if_icmp .ge 24, 3) := by decide +kernel
theorem dX0_copyFrom_28 : decode cX0_copyFrom 28 = .ok (.aload_n 0, 1) := by decide +kernel
theorem dX0_copyFrom_29 : decode cX0_copyFrom 29 = .ok (.getfield 17, 3) := by decide +kernel
theorem dX0_copyFrom_32 : decode cX0_copyFrom 32 = .ok (.iload_n 2, 1) := by decide +kernel
theorem dX0_copyFrom_33 : decode cX0_copyFrom 33 = .ok (.aaload, 1) := by decide +kernel
theorem dX0_copyFrom_34 : decode cX0_copyFrom 34 = .ok (.aload_n 1, 1) := by decide +kernel
theorem dX0_copyFrom_35 : decode cX0_copyFrom 35 = .ok (.getfield 17, 3) := by decide +kernel
theorem dX0_copyFrom_38 : decode cX0_copyFrom 38 = .ok (.iload_n 2, 1) := by decide +kernel
theorem dX0_copyFrom_39 : decode cX0_copyFrom 39 = .ok (.aaload, 1) := by decide +kernel
theorem dX0_copyFrom_40 : decode cX0_copyFrom 40 = .ok (.invokevirtual 36, 3) := by decide +kernel
theorem dX0_copyFrom_43 : decode cX0_copyFrom 43 = .ok (.iinc 2 1, 3) := by decide +kernel
theorem dX0_copyFrom_46 : decode cX0_copyFrom 46 = .ok (.goto (-36), 3) := by decide +kernel
theorem dX0_copyFrom_49 : decode cX0_copyFrom 49 = .ok (.iconst 0, 1) := by decide +kernel
theorem dX0_copyFrom_50 : decode cX0_copyFrom 50 = .ok (.istore_n 2, 1) := by decide +kernel
theorem dX0_copyFrom_51 : decode cX0_copyFrom 51 = .ok (.iload_n 2, 1) := by decide +kernel
theorem dX0_copyFrom_52 : decode cX0_copyFrom 52 = .ok (.aload_n 0, 1) := by decide +kernel
theorem dX0_copyFrom_53 : decode cX0_copyFrom 53 = .ok (.getfield 24, 3) := by decide +kernel
theorem dX0_copyFrom_56 : decode cX0_copyFrom 56 = .ok (.arraylength, 1) := by decide +kernel
theorem dX0_copyFrom_57 : decode cX0_copyFrom 57 = .ok (.if_icmp .ge 33, 3) := by decide +kernel
theorem dX0_copyFrom_60 : decode cX0_copyFrom 60 = .ok (.iload_n 2, 1) := by decide +kernel
theorem dX0_copyFrom_61 : decode cX0_copyFrom 61 = .ok (.aload_n 1, 1) := by decide +kernel
theorem dX0_copyFrom_62 : decode cX0_copyFrom 62 = .ok (.getfield 24, 3) := by decide +kernel
theorem dX0_copyFrom_65 : decode cX0_copyFrom 65 = .ok (.arraylength, 1) := by decide +kernel
theorem dX0_copyFrom_66 : decode cX0_copyFrom 66 = .ok (.if_icmp .ge 24, 3) := by decide +kernel
theorem dX0_copyFrom_69 : decode cX0_copyFrom 69 = .ok (.aload_n 0, 1) := by decide +kernel
theorem dX0_copyFrom_70 : decode cX0_copyFrom 70 = .ok (.getfield 24, 3) := by decide +kernel
theorem dX0_copyFrom_73 : decode cX0_copyFrom 73 = .ok (.iload_n 2, 1) := by decide +kernel
theorem dX0_copyFrom_74 : decode cX0_copyFrom 74 = .ok (.aaload, 1) := by decide +kernel
theorem dX0_copyFrom_75 : decode cX0_copyFrom 75 = .ok (.aload_n 1, 1) := by decide +kernel
theorem dX0_copyFrom_76 : decode cX0_copyFrom 76 = .ok (.getfield 24, 3) := by decide +kernel
theorem dX0_copyFrom_79 : decode cX0_copyFrom 79 = .ok (.iload_n 2, 1) := by decide +kernel
theorem dX0_copyFrom_80 : decode cX0_copyFrom 80 = .ok (.aaload, 1) := by decide +kernel
theorem dX0_copyFrom_81 : decode cX0_copyFrom 81 = .ok (.invokevirtual 40, 3) := by decide +kernel
theorem dX0_copyFrom_84 : decode cX0_copyFrom 84 = .ok (.iinc 2 1, 3) := by decide +kernel
theorem dX0_copyFrom_87 : decode cX0_copyFrom 87 = .ok (.goto (-36), 3) := by decide +kernel
theorem dX0_copyFrom_90 : decode cX0_copyFrom 90 = .ok (.return_, 1) := by decide +kernel
theorem dX0_looksLike_0 : decode cX0_looksLike 0 = .ok (.iconst 0, 1) := by decide +kernel
theorem dX0_looksLike_1 : decode cX0_looksLike 1 = .ok (.istore_n 2, 1) := by decide +kernel
theorem dX0_looksLike_2 : decode cX0_looksLike 2 = .ok (.iload_n 2, 1) := by decide +kernel
theorem dX0_looksLike_3 : decode cX0_looksLike 3 = .ok (.aload_n 0, 1) := by decide +kernel
theorem dX0_looksLike_4 : decode cX0_looksLike 4 = .ok (.getfield 17, 3) := by decide +kernel
theorem dX0_looksLike_7 : decode cX0_looksLike 7 = .ok (.arraylength, 1) := by decide +kernel
theorem dX0_looksLike_8 : decode cX0_looksLike 8 = .ok (.if_icmp .ge 41, 3) := by decide +kernel
theorem dX0_looksLike_11 : decode cX0_looksLike 11 = .ok (.iload_n 2, 1) := by decide +kernel
theorem dX0_looksLike_12 : decode cX0_looksLike 12 = .ok (.aload_n 1, 1) := by decide +kernel
theorem dX0_looksLike_13 : decode cX0_looksLike 13 = .ok (.getfield 17, 3) := by decide +kernel
theorem dX0_looksLike_16 : decode cX0_looksLike 16 = .ok (.arraylength, 1) := by decide +kernel
theorem dX0_looksLike_17 : decode cX0_looksLike 17 = .ok (.if_icmp .ge 32, 3) := by decide +kernel
theorem dX0_looksLike_20 : decode cX0_looksLike 20 = .ok (.aload_n 0, 1) := by decide +kernel
theorem dX0_looksLike_21 : decode cX0_looksLike 21 = .ok (.getfield 17, 3) := by decide +kernel
theorem dX0_looksLike_24 : decode cX0_looksLike 24 = .ok (.iload_n 2, 1) := by decide +kernel
theorem dX0_looksLike_25 : decode cX0_looksLike 25 = .ok (.aaload, 1) := by decide +kernel
theorem dX0_looksLike_26 : decode cX0_looksLike 26 = .ok (.getfield 43, 3) := by decide +kernel
theorem dX0_looksLike_29 : decode cX0_looksLike 29 = .ok (.aload_n 1, 1) := by decide +kernel
theorem dX0_looksLike_30 : decode cX0_looksLike 30 = .ok (.getfield 17, 3) := by decide +kernel
theorem dX0_looksLike_33 : decode cX0_looksLike 33 = .ok (.iload_n 2, 1) := by decide +kernel
theorem dX0_looksLike_34 : decode cX0_looksLike 34 = .ok (.aaload, 1) := by decide +kernel
theorem dX0_looksLike_35 : decode cX0_looksLike 35 = .ok (.getfield 43, 3) := by decide +kernel
theorem dX0_looksLike_38 : decode cX0_looksLike 38 = .ok (.if_icmp .eq 5, 3) := by decide +kernel
theorem dX0_looksLike_41 : decode cX0_looksLike 41 = .ok (.iconst 0, 1) := by decide +kernel
theorem dX0_looksLike_42 : decode cX0_looksLike 42 = .ok (.ireturn, 1) := by decide +kernel
theorem dX0_looksLike_43 : decode cX0_looksLike 43 = .ok (.iinc 2 1, 3) := by decide +kernel
theorem dX0_looksLike_46 : decode cX0_looksLike 46 = .ok (.goto (-44), 3) := by decide +kernel
theorem dX0_looksLike_49 : decode cX0_looksLike 49 = .ok (.iconst 0, 1) := by decide +kernel
theorem dX0_looksLike_50 : decode cX0_looksLike 50 = .ok (.istore_n 2, 1) := by decide +kernel
theorem dX0_looksLike_51 : decode cX0_looksLike 51 = .ok (.iload_n 2, 1) := by decide +kernel
theorem dX0_looksLike_52 : decode cX0_looksLike 52 = .ok (.aload_n 0, 1) := by decide +kernel
theorem dX0_looksLike_53 : decode cX0_looksLike 53 = .ok (.getfield 24, 3) := by decide +kernel
theorem dX0_looksLike_56 : decode cX0_looksLike 56 = .ok (.arraylength, 1) := by decide +kernel
theorem dX0_looksLike_57 : decode cX0_looksLike 57 = .ok (.if_icmp .ge 41, 3) := by decide +kernel
theorem dX0_looksLike_60 : decode cX0_looksLike 60 = .ok (.iload_n 2, 1) := by decide +kernel
theorem dX0_looksLike_61 : decode cX0_looksLike 61 = .ok (.aload_n 1, 1) := by decide +kernel
theorem dX0_looksLike_62 : decode cX0_looksLike 62 = .ok (.getfield 24, 3) := by decide +kernel
theorem dX0_looksLike_65 : decode cX0_looksLike 65 = .ok (.arraylength, 1) := by decide +kernel
theorem dX0_looksLike_66 : decode cX0_looksLike 66 = .ok (.if_icmp .ge 32, 3) := by decide +kernel
theorem dX0_looksLike_69 : decode cX0_looksLike 69 = .ok (.aload_n 0, 1) := by decide +kernel
theorem dX0_looksLike_70 : decode cX0_looksLike 70 = .ok (.getfield 24, 3) := by decide +kernel
theorem dX0_looksLike_73 : decode cX0_looksLike 73 = .ok (.iload_n 2, 1) := by decide +kernel
theorem dX0_looksLike_74 : decode cX0_looksLike 74 = .ok (.aaload, 1) := by decide +kernel
theorem dX0_looksLike_75 : decode cX0_looksLike 75 = .ok (.getfield 46, 3) := by decide +kernel
theorem dX0_looksLike_78 : decode cX0_looksLike 78 = .ok (.aload_n 1, 1) := by decide +kernel
theorem dX0_looksLike_79 : decode cX0_looksLike 79 = .ok (.getfield 24, 3) := by decide +kernel
theorem dX0_looksLike_82 : decode cX0_looksLike 82 = .ok (.iload_n 2, 1) := by decide +kernel
theorem dX0_looksLike_83 : decode cX0_looksLike 83 = .ok (.aaload, 1) := by decide +kernel
theorem dX0_looksLike_84 : decode cX0_looksLike 84 = .ok (.getfield 46, 3) := by decide +kernel
theorem dX0_looksLike_87 : decode cX0_looksLike 87 = .ok (.if_icmp .eq 5, 3) := by decide +kernel
theorem dX0_looksLike_90 : decode cX0_looksLike 90 = .ok (.iconst 0, 1) := by decide +kernel
theorem dX0_looksLike_91 : decode cX0_looksLike 91 = .ok (.ireturn, 1) := by decide +kernel
theorem dX0_looksLike_92 : decode cX0_looksLike 92 = .ok (.iinc 2 1, 3) := by decide +kernel
theorem dX0_looksLike_95 : decode cX0_looksLike 95 = .ok (.goto (-44), 3) := by decide +kernel
theorem dX0_looksLike_98 : decode cX0_looksLike 98 = .ok (.iconst 1, 1) := by decide +kernel
theorem dX0_looksLike_99 : decode cX0_looksLike 99 = .ok (.ireturn, 1) := by decide +kernel
theorem dX0_portAt_0 : decode cX0_portAt 0 = .ok (.iload_n 1, 1) := by decide +kernel
theorem dX0_portAt_1 : decode cX0_portAt 1 = .ok (.ifCond .lt 21, 3) := by decide +kernel
theorem dX0_portAt_4 : decode cX0_portAt 4 = .ok (.iload_n 1, 1) := by decide +kernel
theorem dX0_portAt_5 : decode cX0_portAt 5 = .ok (.aload_n 0, 1) := by decide +kernel
theorem dX0_portAt_6 : decode cX0_portAt 6 = .ok (.getfield 17, 3) := by decide +kernel
theorem dX0_portAt_9 : decode cX0_portAt 9 = .ok (.arraylength, 1) := by decide +kernel
theorem dX0_portAt_10 : decode cX0_portAt 10 = .ok (.if_icmp .ge 12, 3) := by decide +kernel
theorem dX0_portAt_13 : decode cX0_portAt 13 = .ok (.aload_n 0, 1) := by decide +kernel
theorem dX0_portAt_14 : decode cX0_portAt 14 = .ok (.getfield 17, 3) := by decide +kernel
theorem dX0_portAt_17 : decode cX0_portAt 17 = .ok (.iload_n 1, 1) := by decide +kernel
theorem dX0_portAt_18 : decode cX0_portAt 18 = .ok (.aaload, 1) := by decide +kernel
theorem dX0_portAt_19 : decode cX0_portAt 19 = .ok (.goto 4, 3) := by decide +kernel
theorem dX0_portAt_22 : decode cX0_portAt 22 = .ok (.aconst_null, 1) := by decide +kernel
theorem dX0_portAt_23 : decode cX0_portAt 23 = .ok (.areturn, 1) := by decide +kernel
theorem dX0_flowAt_0 : decode cX0_flowAt 0 = .ok (.iload_n 1, 1) := by decide +kernel
theorem dX0_flowAt_1 : decode cX0_flowAt 1 = .ok (.ifCond .lt 21, 3) := by decide +kernel
theorem dX0_flowAt_4 : decode cX0_flowAt 4 = .ok (.iload_n 1, 1) := by decide +kernel
theorem dX0_flowAt_5 : decode cX0_flowAt 5 = .ok (.aload_n 0, 1) := by decide +kernel
theorem dX0_flowAt_6 : decode cX0_flowAt 6 = .ok (.getfield 24, 3) := by decide +kernel
theorem dX0_flowAt_9 : decode cX0_flowAt 9 = .ok (.arraylength, 1) := by decide +kernel
theorem dX0_flowAt_10 : decode cX0_flowAt 10 = .ok (.if_icmp .ge 12, 3) := by decide +kernel
theorem dX0_flowAt_13 : decode cX0_flowAt 13 = .ok (.aload_n 0, 1) := by decide +kernel
theorem dX0_flowAt_14 : decode cX0_flowAt 14 = .ok (.getfield 24, 3) := by decide +kernel
theorem dX0_flowAt_17 : decode cX0_flowAt 17 = .ok (.iload_n 1, 1) := by decide +kernel
theorem dX0_flowAt_18 : decode cX0_flowAt 18 = .ok (.aaload, 1) := by decide +kernel
theorem dX0_flowAt_19 : decode cX0_flowAt 19 = .ok (.goto 4, 3) := by decide +kernel
theorem dX0_flowAt_22 : decode cX0_flowAt 22 = .ok (.aconst_null, 1) := by decide +kernel
theorem dX0_flowAt_23 : decode cX0_flowAt 23 = .ok (.areturn, 1) := by decide +kernel
set_option maxRecDepth 20000 in
theorem ggX0_hearFrom_X5_hear : GoodIn wsX0_hearFrom wsX5_hear := goodIn_r _ [7, 8, 9, 10, 11, 12, 13, 14, 15, 16, 17, 18, 19, 20, 21, 26, 27, 28, 29, 30, 31, 32, 33, 34, 35, 36, 37, 38, 39, 40, 41] (by decide +kernel) (by decide +kernel)
set_option maxRecDepth 20000 in
theorem gX0_hearFrom_X5_hear : GoodIn wsX0_hearFrom (wsV RX0 53 RX5 yX5_hear wsX5_hear) := goodIn_app (goodIn_of _ (by decide +kernel)) ggX0_hearFrom_X5_hear
theorem dX0_hearFrom_0 : decode cX0_hearFrom 0 = .ok (.iconst 0, 1) := by decide +kernel
theorem dX0_hearFrom_1 : decode cX0_hearFrom 1 = .ok (.istore_n 2, 1) := by decide +kernel
theorem dX0_hearFrom_2 : decode cX0_hearFrom 2 = .ok (.iload_n 2, 1) := by decide +kernel
theorem dX0_hearFrom_3 : decode cX0_hearFrom 3 = .ok (.aload_n 0, 1) := by decide +kernel
theorem dX0_hearFrom_4 : decode cX0_hearFrom 4 = .ok (.getfield 17, 3) := by decide +kernel
theorem dX0_hearFrom_7 : decode cX0_hearFrom 7 = .ok (.arraylength, 1) := by decide +kernel
theorem dX0_hearFrom_8 : decode cX0_hearFrom 8 = .ok (.if_icmp .ge 36, 3) := by decide +kernel
theorem dX0_hearFrom_11 : decode cX0_hearFrom 11 = .ok (.iload_n 2, 1) := by decide +kernel
theorem dX0_hearFrom_12 : decode cX0_hearFrom 12 = .ok (.aload_n 1, 1) := by decide +kernel
theorem dX0_hearFrom_13 : decode cX0_hearFrom 13 = .ok (.getfield 17, 3) := by decide +kernel
theorem dX0_hearFrom_16 : decode cX0_hearFrom 16 = .ok (.arraylength, 1) := by decide +kernel
theorem dX0_hearFrom_17 : decode cX0_hearFrom 17 = .ok (.if_icmp .ge 27, 3) := by decide +kernel
theorem dX0_hearFrom_20 : decode cX0_hearFrom 20 = .ok (.aload_n 0, 1) := by decide +kernel
theorem dX0_hearFrom_21 : decode cX0_hearFrom 21 = .ok (.getfield 17, 3) := by decide +kernel
theorem dX0_hearFrom_24 : decode cX0_hearFrom 24 = .ok (.iload_n 2, 1) := by decide +kernel
theorem dX0_hearFrom_25 : decode cX0_hearFrom 25 = .ok (.aaload, 1) := by decide +kernel
theorem dX0_hearFrom_26 : decode cX0_hearFrom 26 = .ok (.aload_n 1, 1) := by decide +kernel
theorem dX0_hearFrom_27 : decode cX0_hearFrom 27 = .ok (.getfield 17, 3) := by decide +kernel
theorem dX0_hearFrom_30 : decode cX0_hearFrom 30 = .ok (.iload_n 2, 1) := by decide +kernel
theorem dX0_hearFrom_31 : decode cX0_hearFrom 31 = .ok (.aaload, 1) := by decide +kernel
theorem dX0_hearFrom_32 : decode cX0_hearFrom 32 = .ok (.getfield 49, 3) := by decide +kernel
theorem dX0_hearFrom_35 : decode cX0_hearFrom 35 = .ok (.invokevirtual 53, 3) := by decide +kernel
theorem dX0_hearFrom_38 : decode cX0_hearFrom 38 = .ok (.iinc 2 1, 3) := by decide +kernel
theorem dX0_hearFrom_41 : decode cX0_hearFrom 41 = .ok (.goto (-39), 3) := by decide +kernel
theorem dX0_hearFrom_44 : decode cX0_hearFrom 44 = .ok (.return_, 1) := by decide +kernel
set_option maxRecDepth 20000 in
theorem ggX0_choose_X0_decides : GoodIn wsX0_choose wsX0_decides := goodIn_r _ [7, 1, 8, 9, 10, 11, 12, 31, 32, 33, 34, 35, 36, 37, 38, 39, 40, 41, 42, 43, 44, 45, 46, 47, 48, 49, 50] (by decide +kernel) (by decide +kernel)
set_option maxRecDepth 20000 in
theorem gX0_choose_X0_decides : GoodIn wsX0_choose (wsV RX0 61 RX0 yX0_decides wsX0_decides) := goodIn_app (goodIn_of _ (by decide +kernel)) ggX0_choose_X0_decides
set_option maxRecDepth 20000 in
theorem ggX0_choose_X0_bestOpen : GoodIn wsX0_choose wsX0_bestOpen := goodIn_r _ [16, 1, 8, 9, 2, 17, 18, 19, 20, 21, 22, 23, 24, 25, 26, 27, 28, 29, 30, 31, 32, 33, 34, 35, 36, 37, 38, 39, 40, 41, 42, 43, 44, 45, 46, 47, 48, 49, 50] (by decide +kernel) (by decide +kernel)
set_option maxRecDepth 20000 in
theorem gX0_choose_X0_bestOpen : GoodIn wsX0_choose (wsV RX0 65 RX0 yX0_bestOpen wsX0_bestOpen) := goodIn_app (goodIn_of _ (by decide +kernel)) ggX0_choose_X0_bestOpen
theorem dX0_choose_0 : decode cX0_choose 0 = .ok (.aload_n 0, 1) := by decide +kernel
theorem dX0_choose_1 : decode cX0_choose 1 = .ok (.getfield 17, 3) := by decide +kernel
theorem dX0_choose_4 : decode cX0_choose 4 = .ok (.astore_n 2, 1) := by decide +kernel
theorem dX0_choose_5 : decode cX0_choose 5 = .ok (.aload_n 2, 1) := by decide +kernel
theorem dX0_choose_6 : decode cX0_choose 6 = .ok (.arraylength, 1) := by decide +kernel
theorem dX0_choose_7 : decode cX0_choose 7 = .ok (.istore_n 3, 1) := by decide +kernel
theorem dX0_choose_8 : decode cX0_choose 8 = .ok (.iconst 0, 1) := by decide +kernel
theorem dX0_choose_9 : decode cX0_choose 9 = .ok (.istore 4, 2) := by decide +kernel
theorem dX0_choose_11 : decode cX0_choose 11 = .ok (.iload 4, 2) := by decide +kernel
theorem dX0_choose_13 : decode cX0_choose 13 = .ok (.iload_n 3, 1) := by decide +kernel
theorem dX0_choose_14 : decode cX0_choose 14 = .ok (.if_icmp .ge 21, 3) := by decide +kernel
theorem dX0_choose_17 : decode cX0_choose 17 = .ok (.aload_n 2, 1) := by decide +kernel
theorem dX0_choose_18 : decode cX0_choose 18 = .ok (.iload 4, 2) := by decide +kernel
theorem dX0_choose_20 : decode cX0_choose 20 = .ok (.aaload, 1) := by decide +kernel
theorem dX0_choose_21 : decode cX0_choose 21 = .ok (.astore 5, 2) := by decide +kernel
theorem dX0_choose_23 : decode cX0_choose 23 = .ok (.aload 5, 2) := by decide +kernel
theorem dX0_choose_25 : decode cX0_choose 25 = .ok (.iconst 0, 1) := by decide +kernel
theorem dX0_choose_26 : decode cX0_choose 26 = .ok (.putfield 57, 3) := by decide +kernel
theorem dX0_choose_29 : decode cX0_choose 29 = .ok (.iinc 4 1, 3) := by decide +kernel
theorem dX0_choose_32 : decode cX0_choose 32 = .ok (.goto (-21), 3) := by decide +kernel
theorem dX0_choose_35 : decode cX0_choose 35 = .ok (.aload_n 0, 1) := by decide +kernel
theorem dX0_choose_36 : decode cX0_choose 36 = .ok (.invokevirtual 61, 3) := by decide +kernel
theorem dX0_choose_39 : decode cX0_choose 39 = .ok (.istore_n 2, 1) := by decide +kernel
theorem dX0_choose_40 : decode cX0_choose 40 = .ok (.aload_n 0, 1) := by decide +kernel
theorem dX0_choose_41 : decode cX0_choose 41 = .ok (.iload_n 2, 1) := by decide +kernel
theorem dX0_choose_42 : decode cX0_choose 42 = .ok (.aconst_null, 1) := by decide +kernel
theorem dX0_choose_43 : decode cX0_choose 43 = .ok (.invokevirtual 65, 3) := by decide +kernel
theorem dX0_choose_46 : decode cX0_choose 46 = .ok (.astore_n 3, 1) := by decide +kernel
theorem dX0_choose_47 : decode cX0_choose 47 = .ok (.aload_n 3, 1) := by decide +kernel
theorem dX0_choose_48 : decode cX0_choose 48 = .ok (.astore 4, 2) := by decide +kernel
theorem dX0_choose_50 : decode cX0_choose 50 = .ok (.iconst 0, 1) := by decide +kernel
theorem dX0_choose_51 : decode cX0_choose 51 = .ok (.istore 5, 2) := by decide +kernel
theorem dX0_choose_53 : decode cX0_choose 53 = .ok (.iload 5, 2) := by decide +kernel
theorem dX0_choose_55 : decode cX0_choose 55 = .ok (.iload_n 1, 1) := by decide +kernel
theorem dX0_choose_56 : decode cX0_choose 56 = .ok (.if_icmp .ge 28, 3) := by decide +kernel
theorem dX0_choose_59 : decode cX0_choose 59 = .ok (.aload 4, 2) := by decide +kernel
theorem dX0_choose_61 : decode cX0_choose 61 = .ok (.ifnull 23, 3) := by decide +kernel
theorem dX0_choose_64 : decode cX0_choose 64 = .ok (.aload 4, 2) := by decide +kernel
theorem dX0_choose_66 : decode cX0_choose 66 = .ok (.iconst 1, 1) := by decide +kernel
theorem dX0_choose_67 : decode cX0_choose 67 = .ok (.putfield 57, 3) := by decide +kernel
theorem dX0_choose_70 : decode cX0_choose 70 = .ok (.aload_n 0, 1) := by decide +kernel
theorem dX0_choose_71 : decode cX0_choose 71 = .ok (.iload_n 2, 1) := by decide +kernel
theorem dX0_choose_72 : decode cX0_choose 72 = .ok (.aload_n 3, 1) := by decide +kernel
theorem dX0_choose_73 : decode cX0_choose 73 = .ok (.invokevirtual 65, 3) := by decide +kernel
theorem dX0_choose_76 : decode cX0_choose 76 = .ok (.astore 4, 2) := by decide +kernel
theorem dX0_choose_78 : decode cX0_choose 78 = .ok (.iinc 5 1, 3) := by decide +kernel
theorem dX0_choose_81 : decode cX0_choose 81 = .ok (.goto (-28), 3) := by decide +kernel
theorem dX0_choose_84 : decode cX0_choose 84 = .ok (.return_, 1) := by decide +kernel
theorem dX0_decides_0 : decode cX0_decides 0 = .ok (.aload_n 0, 1) := by decide +kernel
theorem dX0_decides_1 : decode cX0_decides 1 = .ok (.getfield 17, 3) := by decide +kernel
theorem dX0_decides_4 : decode cX0_decides 4 = .ok (.astore_n 1, 1) := by decide +kernel
theorem dX0_decides_5 : decode cX0_decides 5 = .ok (.aload_n 1, 1) := by decide +kernel
theorem dX0_decides_6 : decode cX0_decides 6 = .ok (.arraylength, 1) := by decide +kernel
theorem dX0_decides_7 : decode cX0_decides 7 = .ok (.istore_n 2, 1) := by decide +kernel
theorem dX0_decides_8 : decode cX0_decides 8 = .ok (.iconst 0, 1) := by decide +kernel
theorem dX0_decides_9 : decode cX0_decides 9 = .ok (.istore_n 3, 1) := by decide +kernel
theorem dX0_decides_10 : decode cX0_decides 10 = .ok (.iload_n 3, 1) := by decide +kernel
theorem dX0_decides_11 : decode cX0_decides 11 = .ok (.iload_n 2, 1) := by decide +kernel
theorem dX0_decides_12 : decode cX0_decides 12 = .ok (.if_icmp .ge 74, 3) := by decide +kernel
theorem dX0_decides_15 : decode cX0_decides 15 = .ok (.aload_n 1, 1) := by decide +kernel
theorem dX0_decides_16 : decode cX0_decides 16 = .ok (.iload_n 3, 1) := by decide +kernel
theorem dX0_decides_17 : decode cX0_decides 17 = .ok (.aaload, 1) := by decide +kernel
theorem dX0_decides_18 : decode cX0_decides 18 = .ok (.astore 4, 2) := by decide +kernel
theorem dX0_decides_20 : decode cX0_decides 20 = .ok (.aload 4, 2) := by decide +kernel
theorem dX0_decides_22 : decode cX0_decides 22 = .ok (.getfield 69, 3) := by decide +kernel
theorem dX0_decides_25 : decode cX0_decides 25 = .ok (.getfield 72, 3) := by decide +kernel
theorem dX0_decides_28 : decode cX0_decides 28 = .ok (.ifCond .eq 52, 3) := by decide +kernel
theorem dX0_decides_31 : decode cX0_decides 31 = .ok (.aload 4, 2) := by decide +kernel
theorem dX0_decides_33 : decode cX0_decides 33 = .ok (.getfield 69, 3) := by decide +kernel
theorem dX0_decides_36 : decode cX0_decides 36 = .ok (.getfield 77, 3) := by decide +kernel
theorem dX0_decides_39 : decode cX0_decides 39 = .ok (.istore 5, 2) := by decide +kernel
theorem dX0_decides_41 : decode cX0_decides 41 = .ok (.aload_n 0, 1) := by decide +kernel
theorem dX0_decides_42 : decode cX0_decides 42 = .ok (.getfield 9, 3) := by decide +kernel
theorem dX0_decides_45 : decode cX0_decides 45 = .ok (.ifCond .ne 20, 3) := by decide +kernel
theorem dX0_decides_48 : decode cX0_decides 48 = .ok (.aload_n 0, 1) := by decide +kernel
theorem dX0_decides_49 : decode cX0_decides 49 = .ok (.getfield 29, 3) := by decide +kernel
theorem dX0_decides_52 : decode cX0_decides 52 = .ok (.iload 5, 2) := by decide +kernel
theorem dX0_decides_54 : decode cX0_decides 54 = .ok (.if_icmp .gt 7, 3) := by decide +kernel
theorem dX0_decides_57 : decode cX0_decides 57 = .ok (.iconst 1, 1) := by decide +kernel
theorem dX0_decides_58 : decode cX0_decides 58 = .ok (.goto 21, 3) := by decide +kernel
theorem dX0_decides_61 : decode cX0_decides 61 = .ok (.iconst 0, 1) := by decide +kernel
theorem dX0_decides_62 : decode cX0_decides 62 = .ok (.goto 17, 3) := by decide +kernel
theorem dX0_decides_65 : decode cX0_decides 65 = .ok (.aload_n 0, 1) := by decide +kernel
theorem dX0_decides_66 : decode cX0_decides 66 = .ok (.getfield 29, 3) := by decide +kernel
theorem dX0_decides_69 : decode cX0_decides 69 = .ok (.iload 5, 2) := by decide +kernel
theorem dX0_decides_71 : decode cX0_decides 71 = .ok (.if_icmp .ge 7, 3) := by decide +kernel
theorem dX0_decides_74 : decode cX0_decides 74 = .ok (.iconst 1, 1) := by decide +kernel
theorem dX0_decides_75 : decode cX0_decides 75 = .ok (.goto 4, 3) := by decide +kernel
theorem dX0_decides_78 : decode cX0_decides 78 = .ok (.iconst 0, 1) := by decide +kernel
theorem dX0_decides_79 : decode cX0_decides 79 = .ok (.ireturn, 1) := by decide +kernel
theorem dX0_decides_80 : decode cX0_decides 80 = .ok (.iinc 3 1, 3) := by decide +kernel
theorem dX0_decides_83 : decode cX0_decides 83 = .ok (.goto (-73), 3) := by decide +kernel
theorem dX0_decides_86 : decode cX0_decides 86 = .ok (.iconst 1, 1) := by decide +kernel
theorem dX0_decides_87 : decode cX0_decides 87 = .ok (.ireturn, 1) := by decide +kernel
set_option maxRecDepth 20000 in
theorem ggX0_bestOpen_X5_hasPairOf : GoodIn wsX0_bestOpen wsX5_hasPairOf := goodIn_r _ [9, 10, 11, 12, 23, 24, 25, 26, 27, 28, 29, 30, 31, 32, 33, 34, 35, 36, 37, 38] (by decide +kernel) (by decide +kernel)
set_option maxRecDepth 20000 in
theorem gX0_bestOpen_X5_hasPairOf : GoodIn wsX0_bestOpen (wsV RX0 78 RX5 yX5_hasPairOf wsX5_hasPairOf) := goodIn_app (goodIn_of _ (by decide +kernel)) ggX0_bestOpen_X5_hasPairOf
set_option maxRecDepth 20000 in
theorem ggX0_bestOpen_X5_priorityBy : GoodIn wsX0_bestOpen wsX5_priorityBy := goodIn_r _ [16, 17, 11, 18, 23, 24, 25, 26, 27, 28, 29, 30, 31, 32, 33, 34, 35, 36, 37, 38] (by decide +kernel) (by decide +kernel)
set_option maxRecDepth 20000 in
theorem gX0_bestOpen_X5_priorityBy : GoodIn wsX0_bestOpen (wsV RX0 82 RX5 yX5_priorityBy wsX5_priorityBy) := goodIn_app (goodIn_of _ (by decide +kernel)) ggX0_bestOpen_X5_priorityBy
theorem dX0_bestOpen_0 : decode cX0_bestOpen 0 = .ok (.aconst_null, 1) := by decide +kernel
theorem dX0_bestOpen_1 : decode cX0_bestOpen 1 = .ok (.astore_n 3, 1) := by decide +kernel
theorem dX0_bestOpen_2 : decode cX0_bestOpen 2 = .ok (.aload_n 0, 1) := by decide +kernel
theorem dX0_bestOpen_3 : decode cX0_bestOpen 3 = .ok (.getfield 17, 3) := by decide +kernel
theorem dX0_bestOpen_6 : decode cX0_bestOpen 6 = .ok (.astore 4, 2) := by decide +kernel
theorem dX0_bestOpen_8 : decode cX0_bestOpen 8 = .ok (.aload 4, 2) := by decide +kernel
theorem dX0_bestOpen_10 : decode cX0_bestOpen 10 = .ok (.arraylength, 1) := by decide +kernel
theorem dX0_bestOpen_11 : decode cX0_bestOpen 11 = .ok (.istore 5, 2) := by decide +kernel
theorem dX0_bestOpen_13 : decode cX0_bestOpen 13 = .ok (.iconst 0, 1) := by decide +kernel
theorem dX0_bestOpen_14 : decode cX0_bestOpen 14 = .ok (.istore 6, 2) := by decide +kernel
theorem dX0_bestOpen_16 : decode cX0_bestOpen 16 = .ok (.iload 6, 2) := by decide +kernel
theorem dX0_bestOpen_18 : decode cX0_bestOpen 18 = .ok (.iload 5, 2) := by decide +kernel
theorem dX0_bestOpen_20 : decode cX0_bestOpen 20 = .ok (.if_icmp .ge 81, 3) := by decide +kernel
theorem dX0_bestOpen_23 : decode cX0_bestOpen 23 = .ok (.aload 4, 2) := by decide +kernel
theorem dX0_bestOpen_25 : decode cX0_bestOpen 25 = .ok (.iload 6, 2) := by decide +kernel
theorem dX0_bestOpen_27 : decode cX0_bestOpen 27 = .ok (.aaload, 1) := by decide +kernel
theorem dX0_bestOpen_28 : decode cX0_bestOpen 28 = .ok (.astore 7, 2) := by decide +kernel
theorem dX0_bestOpen_30 : decode cX0_bestOpen 30 = .ok (.aload 7, 2) := by decide +kernel
theorem dX0_bestOpen_32 : decode cX0_bestOpen 32 = .ok (.getfield 69, 3) := by decide +kernel
theorem dX0_bestOpen_35 : decode cX0_bestOpen 35 = .ok (.getfield 72, 3) := by decide +kernel
theorem dX0_bestOpen_38 : decode cX0_bestOpen 38 = .ok (.ifCond .eq 28, 3) := by decide +kernel
theorem dX0_bestOpen_41 : decode cX0_bestOpen 41 = .ok (.aload 7, 2) := by decide +kernel
theorem dX0_bestOpen_43 : decode cX0_bestOpen 43 = .ok (.getfield 57, 3) := by decide +kernel
theorem dX0_bestOpen_46 : decode cX0_bestOpen 46 = .ok (.ifCond .ne 20, 3) := by decide +kernel
theorem dX0_bestOpen_49 : decode cX0_bestOpen 49 = .ok (.aload_n 2, 1) := by decide +kernel
theorem dX0_bestOpen_50 : decode cX0_bestOpen 50 = .ok (.ifnull 12, 3) := by decide +kernel
theorem dX0_bestOpen_53 : decode cX0_bestOpen 53 = .ok (.aload 7, 2) := by decide +kernel
theorem dX0_bestOpen_55 : decode cX0_bestOpen 55 = .ok (.aload_n 2, 1) := by decide +kernel
theorem dX0_bestOpen_56 : decode cX0_bestOpen 56 = .ok (.invokevirtual 78, 3) := by decide +kernel
theorem dX0_bestOpen_59 : decode cX0_bestOpen 59 = .ok (.ifCond .eq 7, 3) := by decide +kernel
theorem dX0_bestOpen_62 : decode cX0_bestOpen 62 = .ok (.iconst 1, 1) := by decide +kernel
theorem dX0_bestOpen_63 : decode cX0_bestOpen 63 = .ok (.goto 4, 3) := by decide +kernel
theorem dX0_bestOpen_66 : decode cX0_bestOpen 66 = .ok (.iconst 0, 1) := by decide +kernel
theorem dX0_bestOpen_67 : decode cX0_bestOpen 67 = .ok (.istore 8, 2) := by decide +kernel
theorem dX0_bestOpen_69 : decode cX0_bestOpen 69 = .ok (.iload 8, 2) := by decide +kernel
theorem dX0_bestOpen_71 : decode cX0_bestOpen 71 = .ok (.ifCond .eq 24, 3) := by decide +kernel
theorem dX0_bestOpen_74 : decode cX0_bestOpen 74 = .ok (.aload_n 3, 1) := by decide +kernel
theorem dX0_bestOpen_75 : decode cX0_bestOpen 75 = .ok (.ifnull 17, 3) := by decide +kernel
theorem dX0_bestOpen_78 : decode cX0_bestOpen 78 = .ok (.aload 7, 2) := by decide +kernel
theorem dX0_bestOpen_80 : decode cX0_bestOpen 80 = .ok (.iload_n 1, 1) := by decide +kernel
theorem dX0_bestOpen_81 : decode cX0_bestOpen 81 = .ok (.invokevirtual 82, 3) := by decide +kernel
theorem dX0_bestOpen_84 : decode cX0_bestOpen 84 = .ok (.aload_n 3, 1) := by decide +kernel
theorem dX0_bestOpen_85 : decode cX0_bestOpen 85 = .ok (.iload_n 1, 1) := by decide +kernel
theorem dX0_bestOpen_86 : decode cX0_bestOpen 86 = .ok (.invokevirtual 82, 3) := by decide +kernel
theorem dX0_bestOpen_89 : decode cX0_bestOpen 89 = .ok (.if_icmp .ge 6, 3) := by decide +kernel
theorem dX0_bestOpen_92 : decode cX0_bestOpen 92 = .ok (.aload 7, 2) := by decide +kernel
theorem dX0_bestOpen_94 : decode cX0_bestOpen 94 = .ok (.astore_n 3, 1) := by decide +kernel
theorem dX0_bestOpen_95 : decode cX0_bestOpen 95 = .ok (.iinc 6 1, 3) := by decide +kernel
theorem dX0_bestOpen_98 : decode cX0_bestOpen 98 = .ok (.goto (-82), 3) := by decide +kernel
theorem dX0_bestOpen_101 : decode cX0_bestOpen 101 = .ok (.aload_n 3, 1) := by decide +kernel
theorem dX0_bestOpen_102 : decode cX0_bestOpen 102 = .ok (.areturn, 1) := by decide +kernel
set_option maxRecDepth 20000 in
theorem ggX0_judgeAndSay_X5_judge : GoodIn wsX0_judgeAndSay wsX5_judge := goodIn_r _ [7, 8, 9, 10, 11, 12, 13, 14, 6, 15, 16, 17, 18, 19, 35, 36, 37, 38, 39, 40, 41, 42, 43, 44, 45, 46, 47, 48, 49, 50] (by decide +kernel) (by decide +kernel)
set_option maxRecDepth 20000 in
theorem gX0_judgeAndSay_X5_judge : GoodIn wsX0_judgeAndSay (wsV RX0 86 RX5 yX5_judge wsX5_judge) := goodIn_app (goodIn_of _ (by decide +kernel)) ggX0_judgeAndSay_X5_judge
set_option maxRecDepth 20000 in
theorem ggX0_judgeAndSay_X5_say : GoodIn wsX0_judgeAndSay wsX5_say := goodIn_r _ [23, 24, 16, 25, 18, 26, 27, 28, 29, 30, 10, 19, 35, 36, 37, 38, 39, 40, 41, 42, 43, 44, 45, 46, 47, 48, 49, 50] (by decide +kernel) (by decide +kernel)
set_option maxRecDepth 20000 in
theorem gX0_judgeAndSay_X5_say : GoodIn wsX0_judgeAndSay (wsV RX0 90 RX5 yX5_say wsX5_say) := goodIn_app (goodIn_of _ (by decide +kernel)) ggX0_judgeAndSay_X5_say
theorem dX0_judgeAndSay_0 : decode cX0_judgeAndSay 0 = .ok (.aload_n 0, 1) := by decide +kernel
theorem dX0_judgeAndSay_1 : decode cX0_judgeAndSay 1 = .ok (.getfield 17, 3) := by decide +kernel
theorem dX0_judgeAndSay_4 : decode cX0_judgeAndSay 4 = .ok (.astore_n 2, 1) := by decide +kernel
theorem dX0_judgeAndSay_5 : decode cX0_judgeAndSay 5 = .ok (.aload_n 2, 1) := by decide +kernel
theorem dX0_judgeAndSay_6 : decode cX0_judgeAndSay 6 = .ok (.arraylength, 1) := by decide +kernel
theorem dX0_judgeAndSay_7 : decode cX0_judgeAndSay 7 = .ok (.istore_n 3, 1) := by decide +kernel
theorem dX0_judgeAndSay_8 : decode cX0_judgeAndSay 8 = .ok (.iconst 0, 1) := by decide +kernel
theorem dX0_judgeAndSay_9 : decode cX0_judgeAndSay 9 = .ok (.istore 4, 2) := by decide +kernel
theorem dX0_judgeAndSay_11 : decode cX0_judgeAndSay 11 = .ok (.iload 4, 2) := by decide +kernel
theorem dX0_judgeAndSay_13 : decode cX0_judgeAndSay 13 = .ok (.iload_n 3, 1) := by decide +kernel
theorem dX0_judgeAndSay_14 : decode cX0_judgeAndSay 14 = .ok (.if_icmp .ge 30, 3) := by decide +kernel
theorem dX0_judgeAndSay_17 : decode cX0_judgeAndSay 17 = .ok (.aload_n 2, 1) := by decide +kernel
theorem dX0_judgeAndSay_18 : decode cX0_judgeAndSay 18 = .ok (.iload 4, 2) := by decide +kernel
theorem dX0_judgeAndSay_20 : decode cX0_judgeAndSay 20 = .ok (.aaload, 1) := by decide +kernel
theorem dX0_judgeAndSay_21 : decode cX0_judgeAndSay 21 = .ok (.astore 5, 2) := by decide +kernel
theorem dX0_judgeAndSay_23 : decode cX0_judgeAndSay 23 = .ok (.aload 5, 2) := by decide +kernel
theorem dX0_judgeAndSay_25 : decode cX0_judgeAndSay 25 = .ok (.iload_n 1, 1) := by decide +kernel
theorem dX0_judgeAndSay_26 : decode cX0_judgeAndSay 26 = .ok (.invokevirtual 86, 3) := by decide +kernel
theorem dX0_judgeAndSay_29 : decode cX0_judgeAndSay 29 = .ok (.aload 5, 2) := by decide +kernel
theorem dX0_judgeAndSay_31 : decode cX0_judgeAndSay 31 = .ok (.aload_n 0, 1) := by decide +kernel
theorem dX0_judgeAndSay_32 : decode cX0_judgeAndSay 32 = .ok (.getfield 29, 3) := by decide +kernel
theorem dX0_judgeAndSay_35 : decode cX0_judgeAndSay 35 = .ok (.invokevirtual 90, 3) := by decide +kernel
theorem dX0_judgeAndSay_38 : decode cX0_judgeAndSay 38 = .ok (.iinc 4 1, 3) := by decide +kernel
theorem dX0_judgeAndSay_41 : decode cX0_judgeAndSay 41 = .ok (.goto (-30), 3) := by decide +kernel
theorem dX0_judgeAndSay_44 : decode cX0_judgeAndSay 44 = .ok (.return_, 1) := by decide +kernel
set_option maxRecDepth 20000 in
theorem ggX0_dealFlows_X0_howManySending : GoodIn wsX0_dealFlows wsX0_howManySending := goodIn_r _ [6, 7, 8, 20, 21, 22, 23, 24, 25, 26, 27, 28, 29, 30, 31, 32, 33, 34] (by decide +kernel) (by decide +kernel)
set_option maxRecDepth 20000 in
theorem gX0_dealFlows_X0_howManySending : GoodIn wsX0_dealFlows (wsV RX0 93 RX0 yX0_howManySending wsX0_howManySending) := goodIn_app (goodIn_of _ (by decide +kernel)) ggX0_dealFlows_X0_howManySending
set_option maxRecDepth 20000 in
theorem ggX0_dealFlows_X0_wantedBy : GoodIn wsX0_dealFlows wsX0_wantedBy := goodIn_r _ [12, 7, 8, 20, 21, 22, 23, 24, 25, 26, 27, 28, 29, 30, 31, 32, 33, 34] (by decide +kernel) (by decide +kernel)
set_option maxRecDepth 20000 in
theorem gX0_dealFlows_X0_wantedBy : GoodIn wsX0_dealFlows (wsV RX0 97 RX0 yX0_wantedBy wsX0_wantedBy) := goodIn_app (goodIn_of _ (by decide +kernel)) ggX0_dealFlows_X0_wantedBy
set_option maxRecDepth 20000 in
theorem ggX0_dealFlows_X1_deal : GoodIn wsX0_dealFlows wsX1_deal := goodIn_r _ [17, 18, 19, 35, 36] (by decide +kernel) (by decide +kernel)
set_option maxRecDepth 20000 in
theorem gX0_dealFlows_X1_deal : GoodIn wsX0_dealFlows (wsV RX0 101 RX1 yX1_deal wsX1_deal) := goodIn_app (goodIn_of _ (by decide +kernel)) ggX0_dealFlows_X1_deal
theorem dX0_dealFlows_0 : decode cX0_dealFlows 0 = .ok (.aload_n 0, 1) := by decide +kernel
theorem dX0_dealFlows_1 : decode cX0_dealFlows 1 = .ok (.invokevirtual 93, 3) := by decide +kernel
theorem dX0_dealFlows_4 : decode cX0_dealFlows 4 = .ok (.istore_n 2, 1) := by decide +kernel
theorem dX0_dealFlows_5 : decode cX0_dealFlows 5 = .ok (.iconst 0, 1) := by decide +kernel
theorem dX0_dealFlows_6 : decode cX0_dealFlows 6 = .ok (.istore_n 3, 1) := by decide +kernel
theorem dX0_dealFlows_7 : decode cX0_dealFlows 7 = .ok (.iload_n 3, 1) := by decide +kernel
theorem dX0_dealFlows_8 : decode cX0_dealFlows 8 = .ok (.aload_n 0, 1) := by decide +kernel
theorem dX0_dealFlows_9 : decode cX0_dealFlows 9 = .ok (.getfield 24, 3) := by decide +kernel
theorem dX0_dealFlows_12 : decode cX0_dealFlows 12 = .ok (.arraylength, 1) := by decide +kernel
theorem dX0_dealFlows_13 : decode cX0_dealFlows 13 = .ok (.if_icmp .ge 25, 3) := by decide +kernel
theorem dX0_dealFlows_16 : decode cX0_dealFlows 16 = .ok (.aload_n 0, 1) := by decide +kernel
theorem dX0_dealFlows_17 : decode cX0_dealFlows 17 = .ok (.getfield 24, 3) := by decide +kernel
theorem dX0_dealFlows_20 : decode cX0_dealFlows 20 = .ok (.iload_n 3, 1) := by decide +kernel
theorem dX0_dealFlows_21 : decode cX0_dealFlows 21 = .ok (.aaload, 1) := by decide +kernel
theorem dX0_dealFlows_22 : decode cX0_dealFlows 22 = .ok (.aload_n 0, 1) := by decide +kernel
theorem dX0_dealFlows_23 : decode cX0_dealFlows 23 = .ok (.iload_n 3, 1) := by decide +kernel
theorem dX0_dealFlows_24 : decode cX0_dealFlows 24 = .ok (.iload_n 2, 1) := by decide +kernel
theorem dX0_dealFlows_25 : decode cX0_dealFlows 25 = .ok (.invokevirtual 97, 3) := by decide +kernel
theorem dX0_dealFlows_28 : decode cX0_dealFlows 28 = .ok (.iload_n 1, 1) := by decide +kernel
theorem dX0_dealFlows_29 : decode cX0_dealFlows 29 = .ok (.invokevirtual 101, 3) := by decide +kernel
theorem dX0_dealFlows_32 : decode cX0_dealFlows 32 = .ok (.iinc 3 1, 3) := by decide +kernel
theorem dX0_dealFlows_35 : decode cX0_dealFlows 35 = .ok (.goto (-28), 3) := by decide +kernel
theorem dX0_dealFlows_38 : decode cX0_dealFlows 38 = .ok (.return_, 1) := by decide +kernel
theorem dX0_wantedBy_0 : decode cX0_wantedBy 0 = .ok (.iload_n 2, 1) := by decide +kernel
theorem dX0_wantedBy_1 : decode cX0_wantedBy 1 = .ok (.ifCond .gt 6, 3) := by decide +kernel
theorem dX0_wantedBy_4 : decode cX0_wantedBy 4 = .ok (.bipush (-4), 2) := by decide +kernel
theorem dX0_wantedBy_6 : decode cX0_wantedBy 6 = .ok (.ireturn, 1) := by decide +kernel
theorem dX0_wantedBy_7 : decode cX0_wantedBy 7 = .ok (.bipush 7, 2) := by decide +kernel
theorem dX0_wantedBy_9 : decode cX0_wantedBy 9 = .ok (.iload_n 1, 1) := by decide +kernel
theorem dX0_wantedBy_10 : decode cX0_wantedBy 10 = .ok (.imul, 1) := by decide +kernel
theorem dX0_wantedBy_11 : decode cX0_wantedBy 11 = .ok (.iconst 3, 1) := by decide +kernel
theorem dX0_wantedBy_12 : decode cX0_wantedBy 12 = .ok (.iadd, 1) := by decide +kernel
theorem dX0_wantedBy_13 : decode cX0_wantedBy 13 = .ok (.iload_n 2, 1) := by decide +kernel
theorem dX0_wantedBy_14 : decode cX0_wantedBy 14 = .ok (.irem, 1) := by decide +kernel
theorem dX0_wantedBy_15 : decode cX0_wantedBy 15 = .ok (.istore_n 3, 1) := by decide +kernel
theorem dX0_wantedBy_16 : decode cX0_wantedBy 16 = .ok (.iconst 0, 1) := by decide +kernel
theorem dX0_wantedBy_17 : decode cX0_wantedBy 17 = .ok (.istore 4, 2) := by decide +kernel
theorem dX0_wantedBy_19 : decode cX0_wantedBy 19 = .ok (.iload 4, 2) := by decide +kernel
theorem dX0_wantedBy_21 : decode cX0_wantedBy 21 = .ok (.aload_n 0, 1) := by decide +kernel
theorem dX0_wantedBy_22 : decode cX0_wantedBy 22 = .ok (.getfield 17, 3) := by decide +kernel
theorem dX0_wantedBy_25 : decode cX0_wantedBy 25 = .ok (.arraylength, 1) := by decide +kernel
theorem dX0_wantedBy_26 : decode cX0_wantedBy 26 = .ok (.if_icmp .ge 33, 3) := by decide +kernel
theorem dX0_wantedBy_29 : decode cX0_wantedBy 29 = .ok (.aload_n 0, 1) := by decide +kernel
theorem dX0_wantedBy_30 : decode cX0_wantedBy 30 = .ok (.getfield 17, 3) := by decide +kernel
theorem dX0_wantedBy_33 : decode cX0_wantedBy 33 = .ok (.iload 4, 2) := by decide +kernel
theorem dX0_wantedBy_35 : decode cX0_wantedBy 35 = .ok (.aaload, 1) := by decide +kernel
theorem dX0_wantedBy_36 : decode cX0_wantedBy 36 = .ok (.getfield 43, 3) := by decide +kernel
theorem dX0_wantedBy_39 : decode cX0_wantedBy 39 = .ok (.iconst 5, 1) := by decide +kernel
theorem dX0_wantedBy_40 : decode cX0_wantedBy 40 = .ok (.if_icmp .ne 13, 3) := by decide +kernel
theorem dX0_wantedBy_43 : decode cX0_wantedBy 43 = .ok (.iload_n 3, 1) := by decide +kernel
theorem dX0_wantedBy_44 : decode cX0_wantedBy 44 = .ok (.ifCond .ne 6, 3) := by decide +kernel
theorem dX0_wantedBy_47 : decode cX0_wantedBy 47 = .ok (.iload 4, 2) := by decide +kernel
theorem dX0_wantedBy_49 : decode cX0_wantedBy 49 = .ok (.ireturn, 1) := by decide +kernel
theorem dX0_wantedBy_50 : decode cX0_wantedBy 50 = .ok (.iinc 3 (-1), 3) := by decide +kernel
theorem dX0_wantedBy_53 : decode cX0_wantedBy 53 = .ok (.iinc 4 1, 3) := by decide +kernel
theorem dX0_wantedBy_56 : decode cX0_wantedBy 56 = .ok (.goto (-37), 3) := by decide +kernel
theorem dX0_wantedBy_59 : decode cX0_wantedBy 59 = .ok (.bipush (-4), 2) := by decide +kernel
theorem dX0_wantedBy_61 : decode cX0_wantedBy 61 = .ok (.ireturn, 1) := by decide +kernel
theorem dX0_howManySending_0 : decode cX0_howManySending 0 = .ok (.iconst 0, 1) := by decide +kernel
theorem dX0_howManySending_1 : decode cX0_howManySending 1 = .ok (.istore_n 1, 1) := by decide +kernel
theorem dX0_howManySending_2 : decode cX0_howManySending 2 = .ok (.aload_n 0, 1) := by decide +kernel
theorem dX0_howManySending_3 : decode cX0_howManySending 3 = .ok (.getfield 17, 3) := by decide +kernel
theorem dX0_howManySending_6 : decode cX0_howManySending 6 = .ok (.astore_n 2, 1) := by decide +kernel
theorem dX0_howManySending_7 : decode cX0_howManySending 7 = .ok (.aload_n 2, 1) := by decide +kernel
theorem dX0_howManySending_8 : decode cX0_howManySending 8 = .ok (.arraylength, 1) := by decide +kernel
theorem dX0_howManySending_9 : decode cX0_howManySending 9 = .ok (.istore_n 3, 1) := by decide +kernel
theorem dX0_howManySending_10 : decode cX0_howManySending 10 = .ok (.iconst 0, 1) := by decide +kernel
theorem dX0_howManySending_11 : decode cX0_howManySending 11 = .ok (.istore 4, 2) := by decide +kernel
theorem dX0_howManySending_13 : decode cX0_howManySending 13 = .ok (.iload 4, 2) := by decide +kernel
theorem dX0_howManySending_15 : decode cX0_howManySending 15 = .ok (.iload_n 3, 1) := by decide +kernel
theorem dX0_howManySending_16 : decode cX0_howManySending 16 = .ok (.if_icmp .ge 32, 3) := by decide +kernel
theorem dX0_howManySending_19 : decode cX0_howManySending 19 = .ok (.aload_n 2, 1) := by decide +kernel
theorem dX0_howManySending_20 : decode cX0_howManySending 20 = .ok (.iload 4, 2) := by decide +kernel
theorem dX0_howManySending_22 : decode cX0_howManySending 22 = .ok (.aaload, 1) := by decide +kernel
theorem dX0_howManySending_23 : decode cX0_howManySending 23 = .ok (.astore 5, 2) := by decide +kernel
theorem dX0_howManySending_25 : decode cX0_howManySending 25 = .ok (.iload_n 1, 1) := by decide +kernel
theorem dX0_howManySending_26 : decode cX0_howManySending 26 = .ok (.aload 5, 2) := by decide +kernel
theorem dX0_howManySending_28 : decode cX0_howManySending 28 = .ok (.getfield 43, 3) := by decide +kernel
theorem dX0_howManySending_31 : decode cX0_howManySending 31 = .ok (.iconst 5, 1) := by decide +kernel
theorem dX0_howManySending_32 : decode cX0_howManySending 32 = .ok (.if_icmp .ne 7, 3) := by decide +kernel
theorem dX0_howManySending_35 : decode cX0_howManySending 35 = .ok (.iconst 1, 1) := by decide +kernel
theorem dX0_howManySending_36 : decode cX0_howManySending 36 = .ok (.goto 4, 3) := by decide +kernel
theorem dX0_howManySending_39 : decode cX0_howManySending 39 = .ok (.iconst 0, 1) := by decide +kernel
theorem dX0_howManySending_40 : decode cX0_howManySending 40 = .ok (.iadd, 1) := by decide +kernel
theorem dX0_howManySending_41 : decode cX0_howManySending 41 = .ok (.istore_n 1, 1) := by decide +kernel
theorem dX0_howManySending_42 : decode cX0_howManySending 42 = .ok (.iinc 4 1, 3) := by decide +kernel
theorem dX0_howManySending_45 : decode cX0_howManySending 45 = .ok (.goto (-32), 3) := by decide +kernel
theorem dX0_howManySending_48 : decode cX0_howManySending 48 = .ok (.iload_n 1, 1) := by decide +kernel
theorem dX0_howManySending_49 : decode cX0_howManySending 49 = .ok (.ireturn, 1) := by decide +kernel
theorem dX0_howManyUp_0 : decode cX0_howManyUp 0 = .ok (.iconst 0, 1) := by decide +kernel
theorem dX0_howManyUp_1 : decode cX0_howManyUp 1 = .ok (.istore_n 1, 1) := by decide +kernel
theorem dX0_howManyUp_2 : decode cX0_howManyUp 2 = .ok (.aload_n 0, 1) := by decide +kernel
theorem dX0_howManyUp_3 : decode cX0_howManyUp 3 = .ok (.getfield 17, 3) := by decide +kernel
theorem dX0_howManyUp_6 : decode cX0_howManyUp 6 = .ok (.astore_n 2, 1) := by decide +kernel
theorem dX0_howManyUp_7 : decode cX0_howManyUp 7 = .ok (.aload_n 2, 1) := by decide +kernel
theorem dX0_howManyUp_8 : decode cX0_howManyUp 8 = .ok (.arraylength, 1) := by decide +kernel
theorem dX0_howManyUp_9 : decode cX0_howManyUp 9 = .ok (.istore_n 3, 1) := by decide +kernel
theorem dX0_howManyUp_10 : decode cX0_howManyUp 10 = .ok (.iconst 0, 1) := by decide +kernel
theorem dX0_howManyUp_11 : decode cX0_howManyUp 11 = .ok (.istore 4, 2) := by decide +kernel
theorem dX0_howManyUp_13 : decode cX0_howManyUp 13 = .ok (.iload 4, 2) := by decide +kernel
theorem dX0_howManyUp_15 : decode cX0_howManyUp 15 = .ok (.iload_n 3, 1) := by decide +kernel
theorem dX0_howManyUp_16 : decode cX0_howManyUp 16 = .ok (.if_icmp .ge 31, 3) := by decide +kernel
theorem dX0_howManyUp_19 : decode cX0_howManyUp 19 = .ok (.aload_n 2, 1) := by decide +kernel
theorem dX0_howManyUp_20 : decode cX0_howManyUp 20 = .ok (.iload 4, 2) := by decide +kernel
theorem dX0_howManyUp_22 : decode cX0_howManyUp 22 = .ok (.aaload, 1) := by decide +kernel
theorem dX0_howManyUp_23 : decode cX0_howManyUp 23 = .ok (.astore 5, 2) := by decide +kernel
theorem dX0_howManyUp_25 : decode cX0_howManyUp 25 = .ok (.iload_n 1, 1) := by decide +kernel
theorem dX0_howManyUp_26 : decode cX0_howManyUp 26 = .ok (.aload 5, 2) := by decide +kernel
theorem dX0_howManyUp_28 : decode cX0_howManyUp 28 = .ok (.getfield 105, 3) := by decide +kernel
theorem dX0_howManyUp_31 : decode cX0_howManyUp 31 = .ok (.ifCond .eq 7, 3) := by decide +kernel
theorem dX0_howManyUp_34 : decode cX0_howManyUp 34 = .ok (.iconst 1, 1) := by decide +kernel
theorem dX0_howManyUp_35 : decode cX0_howManyUp 35 = .ok (.goto 4, 3) := by decide +kernel
theorem dX0_howManyUp_38 : decode cX0_howManyUp 38 = .ok (.iconst 0, 1) := by decide +kernel
theorem dX0_howManyUp_39 : decode cX0_howManyUp 39 = .ok (.iadd, 1) := by decide +kernel
theorem dX0_howManyUp_40 : decode cX0_howManyUp 40 = .ok (.istore_n 1, 1) := by decide +kernel
theorem dX0_howManyUp_41 : decode cX0_howManyUp 41 = .ok (.iinc 4 1, 3) := by decide +kernel
theorem dX0_howManyUp_44 : decode cX0_howManyUp 44 = .ok (.goto (-31), 3) := by decide +kernel
theorem dX0_howManyUp_47 : decode cX0_howManyUp 47 = .ok (.iload_n 1, 1) := by decide +kernel
theorem dX0_howManyUp_48 : decode cX0_howManyUp 48 = .ok (.ireturn, 1) := by decide +kernel
theorem dX0_howManyMuted_0 : decode cX0_howManyMuted 0 = .ok (.iconst 0, 1) := by decide +kernel
theorem dX0_howManyMuted_1 : decode cX0_howManyMuted 1 = .ok (.istore_n 1, 1) := by decide +kernel
theorem dX0_howManyMuted_2 : decode cX0_howManyMuted 2 = .ok (.aload_n 0, 1) := by decide +kernel
theorem dX0_howManyMuted_3 : decode cX0_howManyMuted 3 = .ok (.getfield 17, 3) := by decide +kernel
theorem dX0_howManyMuted_6 : decode cX0_howManyMuted 6 = .ok (.astore_n 2, 1) := by decide +kernel
theorem dX0_howManyMuted_7 : decode cX0_howManyMuted 7 = .ok (.aload_n 2, 1) := by decide +kernel
theorem dX0_howManyMuted_8 : decode cX0_howManyMuted 8 = .ok (.arraylength, 1) := by decide +kernel
theorem dX0_howManyMuted_9 : decode cX0_howManyMuted 9 = .ok (.istore_n 3, 1) := by decide +kernel
theorem dX0_howManyMuted_10 : decode cX0_howManyMuted 10 = .ok (.iconst 0, 1) := by decide +kernel
theorem dX0_howManyMuted_11 : decode cX0_howManyMuted 11 = .ok (.istore 4, 2) := by decide +kernel
theorem dX0_howManyMuted_13 : decode cX0_howManyMuted 13 = .ok (.iload 4, 2) := by decide +kernel
theorem dX0_howManyMuted_15 : decode cX0_howManyMuted 15 = .ok (.iload_n 3, 1) := by decide +kernel
theorem dX0_howManyMuted_16 : decode cX0_howManyMuted 16 = .ok (.if_icmp .ge 31, 3) := by decide +kernel
theorem dX0_howManyMuted_19 : decode cX0_howManyMuted 19 = .ok (.aload_n 2, 1) := by decide +kernel
theorem dX0_howManyMuted_20 : decode cX0_howManyMuted 20 = .ok (.iload 4, 2) := by decide +kernel
theorem dX0_howManyMuted_22 : decode cX0_howManyMuted 22 = .ok (.aaload, 1) := by decide +kernel
theorem dX0_howManyMuted_23 : decode cX0_howManyMuted 23 = .ok (.astore 5, 2) := by decide +kernel
theorem dX0_howManyMuted_25 : decode cX0_howManyMuted 25 = .ok (.iload_n 1, 1) := by decide +kernel
theorem dX0_howManyMuted_26 : decode cX0_howManyMuted 26 = .ok (.aload 5, 2) := by decide +kernel
theorem dX0_howManyMuted_28 : decode cX0_howManyMuted 28 = .ok (.getfield 108, 3) := by decide +kernel
theorem dX0_howManyMuted_31 : decode cX0_howManyMuted 31 = .ok (.ifCond .eq 7, 3) := by decide +kernel
theorem dX0_howManyMuted_34 : decode cX0_howManyMuted 34 = .ok (.iconst 1, 1) := by decide +kernel
theorem dX0_howManyMuted_35 : decode cX0_howManyMuted 35 = .ok (.goto 4, 3) := by decide +kernel
theorem dX0_howManyMuted_38 : decode cX0_howManyMuted 38 = .ok (.iconst 0, 1) := by decide +kernel
theorem dX0_howManyMuted_39 : decode cX0_howManyMuted 39 = .ok (.iadd, 1) := by decide +kernel
theorem dX0_howManyMuted_40 : decode cX0_howManyMuted 40 = .ok (.istore_n 1, 1) := by decide +kernel
theorem dX0_howManyMuted_41 : decode cX0_howManyMuted 41 = .ok (.iinc 4 1, 3) := by decide +kernel
theorem dX0_howManyMuted_44 : decode cX0_howManyMuted 44 = .ok (.goto (-31), 3) := by decide +kernel
theorem dX0_howManyMuted_47 : decode cX0_howManyMuted 47 = .ok (.iload_n 1, 1) := by decide +kernel
theorem dX0_howManyMuted_48 : decode cX0_howManyMuted 48 = .ok (.ireturn, 1) := by decide +kernel
set_option maxRecDepth 20000 in
theorem ggX0_bits_X5_isOf : GoodIn wsX0_bits wsX5_isOf := goodIn_r _ [6, 7, 8, 9, 10, 15, 16, 17, 18, 19, 20, 21, 22, 23, 24, 25, 26, 27, 28, 29, 30] (by decide +kernel) (by decide +kernel)
set_option maxRecDepth 20000 in
theorem gX0_bits_X5_isOf : GoodIn wsX0_bits (wsV RX0 111 RX5 yX5_isOf wsX5_isOf) := goodIn_app (goodIn_of _ (by decide +kernel)) ggX0_bits_X5_isOf
theorem dX0_bits_0 : decode cX0_bits 0 = .ok (.iconst 0, 1) := by decide +kernel
theorem dX0_bits_1 : decode cX0_bits 1 = .ok (.istore_n 2, 1) := by decide +kernel
theorem dX0_bits_2 : decode cX0_bits 2 = .ok (.iconst 0, 1) := by decide +kernel
theorem dX0_bits_3 : decode cX0_bits 3 = .ok (.istore_n 3, 1) := by decide +kernel
theorem dX0_bits_4 : decode cX0_bits 4 = .ok (.iload_n 3, 1) := by decide +kernel
theorem dX0_bits_5 : decode cX0_bits 5 = .ok (.aload_n 0, 1) := by decide +kernel
theorem dX0_bits_6 : decode cX0_bits 6 = .ok (.getfield 17, 3) := by decide +kernel
theorem dX0_bits_9 : decode cX0_bits 9 = .ok (.arraylength, 1) := by decide +kernel
theorem dX0_bits_10 : decode cX0_bits 10 = .ok (.if_icmp .ge 28, 3) := by decide +kernel
theorem dX0_bits_13 : decode cX0_bits 13 = .ok (.aload_n 0, 1) := by decide +kernel
theorem dX0_bits_14 : decode cX0_bits 14 = .ok (.getfield 17, 3) := by decide +kernel
theorem dX0_bits_17 : decode cX0_bits 17 = .ok (.iload_n 3, 1) := by decide +kernel
theorem dX0_bits_18 : decode cX0_bits 18 = .ok (.aaload, 1) := by decide +kernel
theorem dX0_bits_19 : decode cX0_bits 19 = .ok (.iload_n 1, 1) := by decide +kernel
theorem dX0_bits_20 : decode cX0_bits 20 = .ok (.invokevirtual 111, 3) := by decide +kernel
theorem dX0_bits_23 : decode cX0_bits 23 = .ok (.ifCond .eq 9, 3) := by decide +kernel
theorem dX0_bits_26 : decode cX0_bits 26 = .ok (.iload_n 2, 1) := by decide +kernel
theorem dX0_bits_27 : decode cX0_bits 27 = .ok (.iconst 1, 1) := by decide +kernel
theorem dX0_bits_28 : decode cX0_bits 28 = .ok (.iload_n 3, 1) := by decide +kernel
theorem dX0_bits_29 : decode cX0_bits 29 = .ok (.ishl, 1) := by decide +kernel
theorem dX0_bits_30 : decode cX0_bits 30 = .ok (.ior, 1) := by decide +kernel
theorem dX0_bits_31 : decode cX0_bits 31 = .ok (.istore_n 2, 1) := by decide +kernel
theorem dX0_bits_32 : decode cX0_bits 32 = .ok (.iinc 3 1, 3) := by decide +kernel
theorem dX0_bits_35 : decode cX0_bits 35 = .ok (.goto (-31), 3) := by decide +kernel
theorem dX0_bits_38 : decode cX0_bits 38 = .ok (.iload_n 2, 1) := by decide +kernel
theorem dX0_bits_39 : decode cX0_bits 39 = .ok (.ireturn, 1) := by decide +kernel
theorem dX1_init_0 : decode cX1_init 0 = .ok (.aload_n 0, 1) := by decide +kernel
theorem dX1_init_1 : decode cX1_init 1 = .ok (.invokespecial 3, 3) := by decide +kernel
theorem dX1_init_4 : decode cX1_init 4 = .ok (.return_, 1) := by decide +kernel
theorem dX1_clear_0 : decode cX1_clear 0 = .ok (.aload_n 0, 1) := by decide +kernel
theorem dX1_clear_1 : decode cX1_clear 1 = .ok (.bipush (-4), 2) := by decide +kernel
theorem dX1_clear_3 : decode cX1_clear 3 = .ok (.putfield 9, 3) := by decide +kernel
theorem dX1_clear_6 : decode cX1_clear 6 = .ok (.aload_n 0, 1) := by decide +kernel
theorem dX1_clear_7 : decode cX1_clear 7 = .ok (.iconst 0, 1) := by decide +kernel
theorem dX1_clear_8 : decode cX1_clear 8 = .ok (.putfield 15, 3) := by decide +kernel
theorem dX1_clear_11 : decode cX1_clear 11 = .ok (.return_, 1) := by decide +kernel
theorem dX1_copyFrom_0 : decode cX1_copyFrom 0 = .ok (.aload_n 0, 1) := by decide +kernel
theorem dX1_copyFrom_1 : decode cX1_copyFrom 1 = .ok (.aload_n 1, 1) := by decide +kernel
theorem dX1_copyFrom_2 : decode cX1_copyFrom 2 = .ok (.getfield 9, 3) := by decide +kernel
theorem dX1_copyFrom_5 : decode cX1_copyFrom 5 = .ok (.putfield 9, 3) := by decide +kernel
theorem dX1_copyFrom_8 : decode cX1_copyFrom 8 = .ok (.aload_n 0, 1) := by decide +kernel
theorem dX1_copyFrom_9 : decode cX1_copyFrom 9 = .ok (.aload_n 1, 1) := by decide +kernel
theorem dX1_copyFrom_10 : decode cX1_copyFrom 10 = .ok (.getfield 15, 3) := by decide +kernel
theorem dX1_copyFrom_13 : decode cX1_copyFrom 13 = .ok (.putfield 15, 3) := by decide +kernel
theorem dX1_copyFrom_16 : decode cX1_copyFrom 16 = .ok (.return_, 1) := by decide +kernel
theorem dX1_deal_0 : decode cX1_deal 0 = .ok (.aload_n 0, 1) := by decide +kernel
theorem dX1_deal_1 : decode cX1_deal 1 = .ok (.getfield 15, 3) := by decide +kernel
theorem dX1_deal_4 : decode cX1_deal 4 = .ok (.ifCond .le 28, 3) := by decide +kernel
theorem dX1_deal_7 : decode cX1_deal 7 = .ok (.aload_n 0, 1) := by decide +kernel
theorem dX1_deal_8 : decode cX1_deal 8 = .ok (.dup, 1) := by decide +kernel
theorem dX1_deal_9 : decode cX1_deal 9 = .ok (.getfield 15, 3) := by decide +kernel
theorem dX1_deal_12 : decode cX1_deal 12 = .ok (.iconst 1, 1) := by decide +kernel
theorem dX1_deal_13 : decode cX1_deal 13 = .ok (.isub, 1) := by decide +kernel
theorem dX1_deal_14 : decode cX1_deal 14 = .ok (.putfield 15, 3) := by decide +kernel
theorem dX1_deal_17 : decode cX1_deal 17 = .ok (.aload_n 0, 1) := by decide +kernel
theorem dX1_deal_18 : decode cX1_deal 18 = .ok (.getfield 15, 3) := by decide +kernel
theorem dX1_deal_21 : decode cX1_deal 21 = .ok (.ifCond .ne 51, 3) := by decide +kernel
theorem dX1_deal_24 : decode cX1_deal 24 = .ok (.aload_n 0, 1) := by decide +kernel
theorem dX1_deal_25 : decode cX1_deal 25 = .ok (.iload_n 1, 1) := by decide +kernel
theorem dX1_deal_26 : decode cX1_deal 26 = .ok (.putfield 9, 3) := by decide +kernel
theorem dX1_deal_29 : decode cX1_deal 29 = .ok (.goto 43, 3) := by decide +kernel
theorem dX1_deal_32 : decode cX1_deal 32 = .ok (.iload_n 1, 1) := by decide +kernel
theorem dX1_deal_33 : decode cX1_deal 33 = .ok (.aload_n 0, 1) := by decide +kernel
theorem dX1_deal_34 : decode cX1_deal 34 = .ok (.getfield 9, 3) := by decide +kernel
theorem dX1_deal_37 : decode cX1_deal 37 = .ok (.if_icmp .eq 35, 3) := by decide +kernel
theorem dX1_deal_40 : decode cX1_deal 40 = .ok (.aload_n 0, 1) := by decide +kernel
theorem dX1_deal_41 : decode cX1_deal 41 = .ok (.getfield 9, 3) := by decide +kernel
theorem dX1_deal_44 : decode cX1_deal 44 = .ok (.bipush (-4), 2) := by decide +kernel
theorem dX1_deal_46 : decode cX1_deal 46 = .ok (.if_icmp .eq 13, 3) := by decide +kernel
theorem dX1_deal_49 : decode cX1_deal 49 = .ok (.iload_n 1, 1) := by decide +kernel
theorem dX1_deal_50 : decode cX1_deal 50 = .ok (.bipush (-4), 2) := by decide +kernel
theorem dX1_deal_52 : decode cX1_deal 52 = .ok (.if_icmp .eq 7, 3) := by decide +kernel
theorem dX1_deal_55 : decode cX1_deal 55 = .ok (.iload_n 2, 1) := by decide +kernel
theorem dX1_deal_56 : decode cX1_deal 56 = .ok (.ifCond .ne 11, 3) := by decide +kernel
theorem dX1_deal_59 : decode cX1_deal 59 = .ok (.aload_n 0, 1) := by decide +kernel
theorem dX1_deal_60 : decode cX1_deal 60 = .ok (.iload_n 1, 1) := by decide +kernel
theorem dX1_deal_61 : decode cX1_deal 61 = .ok (.putfield 9, 3) := by decide +kernel
theorem dX1_deal_64 : decode cX1_deal 64 = .ok (.goto 8, 3) := by decide +kernel
theorem dX1_deal_67 : decode cX1_deal 67 = .ok (.aload_n 0, 1) := by decide +kernel
theorem dX1_deal_68 : decode cX1_deal 68 = .ok (.iload_n 2, 1) := by decide +kernel
theorem dX1_deal_69 : decode cX1_deal 69 = .ok (.putfield 15, 3) := by decide +kernel
theorem dX1_deal_72 : decode cX1_deal 72 = .ok (.return_, 1) := by decide +kernel
set_option maxRecDepth 20000 in
theorem ggX2_init_X4_init : GoodIn wsX2_init wsX4_init := goodIn_r _ [9, 10, 2, 3, 11, 12, 13, 14, 15, 16, 17, 18, 19, 20, 21, 22, 23, 24, 25, 26, 27, 28, 29, 30, 31, 32, 33, 34, 35, 36, 37, 38, 39, 40, 41, 42, 53, 54, 55, 56, 46, 47, 48, 49, 50, 51, 52, 57, 58, 59, 60, 61, 62, 63, 64, 65, 66, 67, 68, 69, 70, 71, 72, 73, 74] (by decide +kernel) (by decide +kernel)
set_option maxRecDepth 20000 in
theorem gX2_init_X4_init_n17 : GoodIn wsX2_init (wsX4_init) := ggX2_init_X4_init
theorem dX2_init_0 : decode cX2_init 0 = .ok (.aload_n 0, 1) := by decide +kernel
theorem dX2_init_1 : decode cX2_init 1 = .ok (.invokespecial 3, 3) := by decide +kernel
theorem dX2_init_4 : decode cX2_init 4 = .ok (.aload_n 0, 1) := by decide +kernel
theorem dX2_init_5 : decode cX2_init 5 = .ok (.bipush 6, 2) := by decide +kernel
theorem dX2_init_7 : decode cX2_init 7 = .ok (.anewarray 9, 3) := by decide +kernel
theorem dX2_init_10 : decode cX2_init 10 = .ok (.putfield 11, 3) := by decide +kernel
theorem dX2_init_13 : decode cX2_init 13 = .ok (.iconst 0, 1) := by decide +kernel
theorem dX2_init_14 : decode cX2_init 14 = .ok (.istore_n 1, 1) := by decide +kernel
theorem dX2_init_15 : decode cX2_init 15 = .ok (.iload_n 1, 1) := by decide +kernel
theorem dX2_init_16 : decode cX2_init 16 = .ok (.aload_n 0, 1) := by decide +kernel
theorem dX2_init_17 : decode cX2_init 17 = .ok (.getfield 11, 3) := by decide +kernel
theorem dX2_init_20 : decode cX2_init 20 = .ok (.arraylength, 1) := by decide +kernel
theorem dX2_init_21 : decode cX2_init 21 = .ok (.if_icmp .ge 22, 3) := by decide +kernel
theorem dX2_init_24 : decode cX2_init 24 = .ok (.aload_n 0, 1) := by decide +kernel
theorem dX2_init_25 : decode cX2_init 25 = .ok (.getfield 11, 3) := by decide +kernel
theorem dX2_init_28 : decode cX2_init 28 = .ok (.iload_n 1, 1) := by decide +kernel
theorem dX2_init_29 : decode cX2_init 29 = .ok (.new 9, 3) := by decide +kernel
theorem dX2_init_32 : decode cX2_init 32 = .ok (.dup, 1) := by decide +kernel
theorem dX2_init_33 : decode cX2_init 33 = .ok (.invokespecial 17, 3) := by decide +kernel
theorem dX2_init_36 : decode cX2_init 36 = .ok (.aastore, 1) := by decide +kernel
theorem dX2_init_37 : decode cX2_init 37 = .ok (.iinc 1 1, 3) := by decide +kernel
theorem dX2_init_40 : decode cX2_init 40 = .ok (.goto (-25), 3) := by decide +kernel
theorem dX2_init_43 : decode cX2_init 43 = .ok (.return_, 1) := by decide +kernel
theorem dX2_clear_0 : decode cX2_clear 0 = .ok (.aload_n 0, 1) := by decide +kernel
theorem dX2_clear_1 : decode cX2_clear 1 = .ok (.iconst 0, 1) := by decide +kernel
theorem dX2_clear_2 : decode cX2_clear 2 = .ok (.putfield 18, 3) := by decide +kernel
theorem dX2_clear_5 : decode cX2_clear 5 = .ok (.aload_n 0, 1) := by decide +kernel
theorem dX2_clear_6 : decode cX2_clear 6 = .ok (.iconst 0, 1) := by decide +kernel
theorem dX2_clear_7 : decode cX2_clear 7 = .ok (.putfield 22, 3) := by decide +kernel
theorem dX2_clear_10 : decode cX2_clear 10 = .ok (.return_, 1) := by decide +kernel
set_option maxRecDepth 20000 in
theorem ggX2_keep_X4_copyFrom : GoodIn wsX2_keep wsX4_copyFrom := goodIn_r _ [12, 13, 14, 15, 16, 17, 18, 19, 20, 21, 22, 23, 24, 25, 26, 27, 28, 29, 30, 31, 32, 33, 34, 35, 36, 37, 38, 39, 40, 41, 42, 43, 44, 45, 46, 47, 48, 49, 50, 51, 52, 53, 54, 55, 56, 57, 58, 59, 60, 64, 65, 66, 67, 68, 69, 70, 71, 72, 73, 74, 75, 76, 77, 78, 79, 80, 81, 82, 83, 84, 85, 86, 87, 88, 89, 90, 91, 92] (by decide +kernel) (by decide +kernel)
set_option maxRecDepth 20000 in
theorem gX2_keep_X4_copyFrom : GoodIn wsX2_keep (wsV RX2 25 RX4 yX4_copyFrom wsX4_copyFrom) := goodIn_app (goodIn_of _ (by decide +kernel)) ggX2_keep_X4_copyFrom
theorem dX2_keep_0 : decode cX2_keep 0 = .ok (.aload_n 0, 1) := by decide +kernel
theorem dX2_keep_1 : decode cX2_keep 1 = .ok (.getfield 18, 3) := by decide +kernel
theorem dX2_keep_4 : decode cX2_keep 4 = .ok (.ifCond .lt 15, 3) := by decide +kernel
theorem dX2_keep_7 : decode cX2_keep 7 = .ok (.aload_n 0, 1) := by decide +kernel
theorem dX2_keep_8 : decode cX2_keep 8 = .ok (.getfield 18, 3) := by decide +kernel
theorem dX2_keep_11 : decode cX2_keep 11 = .ok (.aload_n 0, 1) := by decide +kernel
theorem dX2_keep_12 : decode cX2_keep 12 = .ok (.getfield 11, 3) := by decide +kernel
theorem dX2_keep_15 : decode cX2_keep 15 = .ok (.arraylength, 1) := by decide +kernel
theorem dX2_keep_16 : decode cX2_keep 16 = .ok (.if_icmp .lt 4, 3) := by decide +kernel
theorem dX2_keep_19 : decode cX2_keep 19 = .ok (.return_, 1) := by decide +kernel
theorem dX2_keep_20 : decode cX2_keep 20 = .ok (.aload_n 0, 1) := by decide +kernel
theorem dX2_keep_21 : decode cX2_keep 21 = .ok (.getfield 11, 3) := by decide +kernel
theorem dX2_keep_24 : decode cX2_keep 24 = .ok (.aload_n 0, 1) := by decide +kernel
theorem dX2_keep_25 : decode cX2_keep 25 = .ok (.getfield 18, 3) := by decide +kernel
theorem dX2_keep_28 : decode cX2_keep 28 = .ok (.aaload, 1) := by decide +kernel
theorem dX2_keep_29 : decode cX2_keep 29 = .ok (.aload_n 1, 1) := by decide +kernel
theorem dX2_keep_30 : decode cX2_keep 30 = .ok (.invokevirtual 25, 3) := by decide +kernel
theorem dX2_keep_33 : decode cX2_keep 33 = .ok (.aload_n 0, 1) := by decide +kernel
theorem dX2_keep_34 : decode cX2_keep 34 = .ok (.aload_n 0, 1) := by decide +kernel
theorem dX2_keep_35 : decode cX2_keep 35 = .ok (.getfield 18, 3) := by decide +kernel
theorem dX2_keep_38 : decode cX2_keep 38 = .ok (.iconst 1, 1) := by decide +kernel
theorem dX2_keep_39 : decode cX2_keep 39 = .ok (.iadd, 1) := by decide +kernel
theorem dX2_keep_40 : decode cX2_keep 40 = .ok (.aload_n 0, 1) := by decide +kernel
theorem dX2_keep_41 : decode cX2_keep 41 = .ok (.getfield 11, 3) := by decide +kernel
theorem dX2_keep_44 : decode cX2_keep 44 = .ok (.arraylength, 1) := by decide +kernel
theorem dX2_keep_45 : decode cX2_keep 45 = .ok (.if_icmp .ge 12, 3) := by decide +kernel
theorem dX2_keep_48 : decode cX2_keep 48 = .ok (.aload_n 0, 1) := by decide +kernel
theorem dX2_keep_49 : decode cX2_keep 49 = .ok (.getfield 18, 3) := by decide +kernel
theorem dX2_keep_52 : decode cX2_keep 52 = .ok (.iconst 1, 1) := by decide +kernel
theorem dX2_keep_53 : decode cX2_keep 53 = .ok (.iadd, 1) := by decide +kernel
theorem dX2_keep_54 : decode cX2_keep 54 = .ok (.goto 4, 3) := by decide +kernel
theorem dX2_keep_57 : decode cX2_keep 57 = .ok (.iconst 0, 1) := by decide +kernel
theorem dX2_keep_58 : decode cX2_keep 58 = .ok (.putfield 18, 3) := by decide +kernel
theorem dX2_keep_61 : decode cX2_keep 61 = .ok (.aload_n 0, 1) := by decide +kernel
theorem dX2_keep_62 : decode cX2_keep 62 = .ok (.aload_n 0, 1) := by decide +kernel
theorem dX2_keep_63 : decode cX2_keep 63 = .ok (.getfield 22, 3) := by decide +kernel
theorem dX2_keep_66 : decode cX2_keep 66 = .ok (.iconst 1, 1) := by decide +kernel
theorem dX2_keep_67 : decode cX2_keep 67 = .ok (.iadd, 1) := by decide +kernel
theorem dX2_keep_68 : decode cX2_keep 68 = .ok (.aload_n 0, 1) := by decide +kernel
theorem dX2_keep_69 : decode cX2_keep 69 = .ok (.getfield 11, 3) := by decide +kernel
theorem dX2_keep_72 : decode cX2_keep 72 = .ok (.arraylength, 1) := by decide +kernel
theorem dX2_keep_73 : decode cX2_keep 73 = .ok (.invokestatic 29, 3) := by decide +kernel
theorem dX2_keep_76 : decode cX2_keep 76 = .ok (.putfield 22, 3) := by decide +kernel
theorem dX2_keep_79 : decode cX2_keep 79 = .ok (.return_, 1) := by decide +kernel
theorem dX2_takeLatest_0 : decode cX2_takeLatest 0 = .ok (.aload_n 0, 1) := by decide +kernel
theorem dX2_takeLatest_1 : decode cX2_takeLatest 1 = .ok (.getfield 18, 3) := by decide +kernel
theorem dX2_takeLatest_4 : decode cX2_takeLatest 4 = .ok (.ifCond .le 12, 3) := by decide +kernel
theorem dX2_takeLatest_7 : decode cX2_takeLatest 7 = .ok (.aload_n 0, 1) := by decide +kernel
theorem dX2_takeLatest_8 : decode cX2_takeLatest 8 = .ok (.getfield 18, 3) := by decide +kernel
theorem dX2_takeLatest_11 : decode cX2_takeLatest 11 = .ok (.iconst 1, 1) := by decide +kernel
theorem dX2_takeLatest_12 : decode cX2_takeLatest 12 = .ok (.isub, 1) := by decide +kernel
theorem dX2_takeLatest_13 : decode cX2_takeLatest 13 = .ok (.goto 10, 3) := by decide +kernel
theorem dX2_takeLatest_16 : decode cX2_takeLatest 16 = .ok (.aload_n 0, 1) := by decide +kernel
theorem dX2_takeLatest_17 : decode cX2_takeLatest 17 = .ok (.getfield 11, 3) := by decide +kernel
theorem dX2_takeLatest_20 : decode cX2_takeLatest 20 = .ok (.arraylength, 1) := by decide +kernel
theorem dX2_takeLatest_21 : decode cX2_takeLatest 21 = .ok (.iconst 1, 1) := by decide +kernel
theorem dX2_takeLatest_22 : decode cX2_takeLatest 22 = .ok (.isub, 1) := by decide +kernel
theorem dX2_takeLatest_23 : decode cX2_takeLatest 23 = .ok (.istore_n 1, 1) := by decide +kernel
theorem dX2_takeLatest_24 : decode cX2_takeLatest 24 = .ok (.aload_n 0, 1) := by decide +kernel
theorem dX2_takeLatest_25 : decode cX2_takeLatest 25 = .ok (.getfield 22, 3) := by decide +kernel
theorem dX2_takeLatest_28 : decode cX2_takeLatest 28 = .ok (.ifCond .eq 16, 3) := by decide +kernel
theorem dX2_takeLatest_31 : decode cX2_takeLatest 31 = .ok (.iload_n 1, 1) := by decide +kernel
theorem dX2_takeLatest_32 : decode cX2_takeLatest 32 = .ok (.ifCond .lt 12, 3) := by decide +kernel
theorem dX2_takeLatest_35 : decode cX2_takeLatest 35 = .ok (.iload_n 1, 1) := by decide +kernel
theorem dX2_takeLatest_36 : decode cX2_takeLatest 36 = .ok (.aload_n 0, 1) := by decide +kernel
theorem dX2_takeLatest_37 : decode cX2_takeLatest 37 = .ok (.getfield 11, 3) := by decide +kernel
theorem dX2_takeLatest_40 : decode cX2_takeLatest 40 = .ok (.arraylength, 1) := by decide +kernel
theorem dX2_takeLatest_41 : decode cX2_takeLatest 41 = .ok (.if_icmp .lt 5, 3) := by decide +kernel
theorem dX2_takeLatest_44 : decode cX2_takeLatest 44 = .ok (.aconst_null, 1) := by decide +kernel
theorem dX2_takeLatest_45 : decode cX2_takeLatest 45 = .ok (.areturn, 1) := by decide +kernel
theorem dX2_takeLatest_46 : decode cX2_takeLatest 46 = .ok (.aload_n 0, 1) := by decide +kernel
theorem dX2_takeLatest_47 : decode cX2_takeLatest 47 = .ok (.iload_n 1, 1) := by decide +kernel
theorem dX2_takeLatest_48 : decode cX2_takeLatest 48 = .ok (.putfield 18, 3) := by decide +kernel
theorem dX2_takeLatest_51 : decode cX2_takeLatest 51 = .ok (.aload_n 0, 1) := by decide +kernel
theorem dX2_takeLatest_52 : decode cX2_takeLatest 52 = .ok (.dup, 1) := by decide +kernel
theorem dX2_takeLatest_53 : decode cX2_takeLatest 53 = .ok (.getfield 22, 3) := by decide +kernel
theorem dX2_takeLatest_56 : decode cX2_takeLatest 56 = .ok (.iconst 1, 1) := by decide +kernel
theorem dX2_takeLatest_57 : decode cX2_takeLatest 57 = .ok (.isub, 1) := by decide +kernel
theorem dX2_takeLatest_58 : decode cX2_takeLatest 58 = .ok (.putfield 22, 3) := by decide +kernel
theorem dX2_takeLatest_61 : decode cX2_takeLatest 61 = .ok (.aload_n 0, 1) := by decide +kernel
theorem dX2_takeLatest_62 : decode cX2_takeLatest 62 = .ok (.getfield 11, 3) := by decide +kernel
theorem dX2_takeLatest_65 : decode cX2_takeLatest 65 = .ok (.iload_n 1, 1) := by decide +kernel
theorem dX2_takeLatest_66 : decode cX2_takeLatest 66 = .ok (.aaload, 1) := by decide +kernel
theorem dX2_takeLatest_67 : decode cX2_takeLatest 67 = .ok (.areturn, 1) := by decide +kernel
theorem dX3_init_0 : decode cX3_init 0 = .ok (.aload_n 0, 1) := by decide +kernel
theorem dX3_init_1 : decode cX3_init 1 = .ok (.invokespecial 1, 3) := by decide +kernel
theorem dX3_init_4 : decode cX3_init 4 = .ok (.return_, 1) := by decide +kernel
theorem dX3_clear_0 : decode cX3_clear 0 = .ok (.aload_n 0, 1) := by decide +kernel
theorem dX3_clear_1 : decode cX3_clear 1 = .ok (.iconst 0, 1) := by decide +kernel
theorem dX3_clear_2 : decode cX3_clear 2 = .ok (.putfield 7, 3) := by decide +kernel
theorem dX3_clear_5 : decode cX3_clear 5 = .ok (.aload_n 0, 1) := by decide +kernel
theorem dX3_clear_6 : decode cX3_clear 6 = .ok (.iconst 0, 1) := by decide +kernel
theorem dX3_clear_7 : decode cX3_clear 7 = .ok (.putfield 13, 3) := by decide +kernel
theorem dX3_clear_10 : decode cX3_clear 10 = .ok (.aload_n 0, 1) := by decide +kernel
theorem dX3_clear_11 : decode cX3_clear 11 = .ok (.iconst 0, 1) := by decide +kernel
theorem dX3_clear_12 : decode cX3_clear 12 = .ok (.putfield 17, 3) := by decide +kernel
theorem dX3_clear_15 : decode cX3_clear 15 = .ok (.aload_n 0, 1) := by decide +kernel
theorem dX3_clear_16 : decode cX3_clear 16 = .ok (.iconst 0, 1) := by decide +kernel
theorem dX3_clear_17 : decode cX3_clear 17 = .ok (.putfield 20, 3) := by decide +kernel
theorem dX3_clear_20 : decode cX3_clear 20 = .ok (.aload_n 0, 1) := by decide +kernel
theorem dX3_clear_21 : decode cX3_clear 21 = .ok (.iconst 0, 1) := by decide +kernel
theorem dX3_clear_22 : decode cX3_clear 22 = .ok (.putfield 23, 3) := by decide +kernel
theorem dX3_clear_25 : decode cX3_clear 25 = .ok (.return_, 1) := by decide +kernel
theorem dX3_copyFrom_0 : decode cX3_copyFrom 0 = .ok (.aload_n 0, 1) := by decide +kernel
theorem dX3_copyFrom_1 : decode cX3_copyFrom 1 = .ok (.aload_n 1, 1) := by decide +kernel
theorem dX3_copyFrom_2 : decode cX3_copyFrom 2 = .ok (.getfield 7, 3) := by decide +kernel
theorem dX3_copyFrom_5 : decode cX3_copyFrom 5 = .ok (.putfield 7, 3) := by decide +kernel
theorem dX3_copyFrom_8 : decode cX3_copyFrom 8 = .ok (.aload_n 0, 1) := by decide +kernel
theorem dX3_copyFrom_9 : decode cX3_copyFrom 9 = .ok (.aload_n 1, 1) := by decide +kernel
theorem dX3_copyFrom_10 : decode cX3_copyFrom 10 = .ok (.getfield 13, 3) := by decide +kernel
theorem dX3_copyFrom_13 : decode cX3_copyFrom 13 = .ok (.putfield 13, 3) := by decide +kernel
theorem dX3_copyFrom_16 : decode cX3_copyFrom 16 = .ok (.aload_n 0, 1) := by decide +kernel
theorem dX3_copyFrom_17 : decode cX3_copyFrom 17 = .ok (.aload_n 1, 1) := by decide +kernel
theorem dX3_copyFrom_18 : decode cX3_copyFrom 18 = .ok (.getfield 17, 3) := by decide +kernel
theorem dX3_copyFrom_21 : decode cX3_copyFrom 21 = .ok (.putfield 17, 3) := by decide +kernel
theorem dX3_copyFrom_24 : decode cX3_copyFrom 24 = .ok (.aload_n 0, 1) := by decide +kernel
theorem dX3_copyFrom_25 : decode cX3_copyFrom 25 = .ok (.aload_n 1, 1) := by decide +kernel
theorem dX3_copyFrom_26 : decode cX3_copyFrom 26 = .ok (.getfield 20, 3) := by decide +kernel
theorem dX3_copyFrom_29 : decode cX3_copyFrom 29 = .ok (.putfield 20, 3) := by decide +kernel
theorem dX3_copyFrom_32 : decode cX3_copyFrom 32 = .ok (.aload_n 0, 1) := by decide +kernel
theorem dX3_copyFrom_33 : decode cX3_copyFrom 33 = .ok (.aload_n 1, 1) := by decide +kernel
theorem dX3_copyFrom_34 : decode cX3_copyFrom 34 = .ok (.getfield 23, 3) := by decide +kernel
theorem dX3_copyFrom_37 : decode cX3_copyFrom 37 = .ok (.putfield 23, 3) := by decide +kernel
theorem dX3_copyFrom_40 : decode cX3_copyFrom 40 = .ok (.return_, 1) := by decide +kernel
set_option maxRecDepth 20000 in
theorem ggX4_init_X0_init : GoodIn wsX4_init wsX0_init := goodIn_r _ [11, 12, 2, 3, 13, 14, 15, 16, 17, 18, 19, 20, 21, 22, 23, 24, 25, 26, 27, 28, 29, 30, 31, 32, 33, 34, 35, 36, 37, 38, 39, 47, 48, 49, 50, 51, 52, 53, 54, 55, 56, 57, 58, 59, 60, 61, 62, 63, 64] (by decide +kernel) (by decide +kernel)
set_option maxRecDepth 20000 in
theorem gX4_init_X0_init : GoodIn wsX4_init (wsX0_init) := ggX4_init_X0_init
theorem dX4_init_0 : decode cX4_init 0 = .ok (.aload_n 0, 1) := by decide +kernel
theorem dX4_init_1 : decode cX4_init 1 = .ok (.invokespecial 3, 3) := by decide +kernel
theorem dX4_init_4 : decode cX4_init 4 = .ok (.aload_n 0, 1) := by decide +kernel
theorem dX4_init_5 : decode cX4_init 5 = .ok (.new 9, 3) := by decide +kernel
theorem dX4_init_8 : decode cX4_init 8 = .ok (.dup, 1) := by decide +kernel
theorem dX4_init_9 : decode cX4_init 9 = .ok (.iconst 0, 1) := by decide +kernel
theorem dX4_init_10 : decode cX4_init 10 = .ok (.invokespecial 11, 3) := by decide +kernel
theorem dX4_init_13 : decode cX4_init 13 = .ok (.putfield 14, 3) := by decide +kernel
theorem dX4_init_16 : decode cX4_init 16 = .ok (.aload_n 0, 1) := by decide +kernel
theorem dX4_init_17 : decode cX4_init 17 = .ok (.new 9, 3) := by decide +kernel
theorem dX4_init_20 : decode cX4_init 20 = .ok (.dup, 1) := by decide +kernel
theorem dX4_init_21 : decode cX4_init 21 = .ok (.iconst 1, 1) := by decide +kernel
theorem dX4_init_22 : decode cX4_init 22 = .ok (.invokespecial 11, 3) := by decide +kernel
theorem dX4_init_25 : decode cX4_init 25 = .ok (.putfield 20, 3) := by decide +kernel
theorem dX4_init_28 : decode cX4_init 28 = .ok (.return_, 1) := by decide +kernel
set_option maxRecDepth 20000 in
theorem ggX4_clear_X0_clear : GoodIn wsX4_clear wsX0_clear := goodIn_r _ [12, 13, 14, 15, 16, 17, 18, 19, 20, 21, 22, 23, 24, 25, 26, 27, 28, 29, 30, 31, 32, 33, 34, 35, 36, 37, 38, 39, 40, 41, 42, 43, 44, 45, 46, 47, 48, 56, 57, 58, 59, 60, 61, 62, 63, 64, 65, 66, 67, 68, 69, 70, 71, 72, 73, 74, 75, 76, 77] (by decide +kernel) (by decide +kernel)
set_option maxRecDepth 20000 in
theorem gX4_clear_X0_clear : GoodIn wsX4_clear (wsV RX4 23 RX0 yX0_clear wsX0_clear) := goodIn_app (goodIn_of _ (by decide +kernel)) ggX4_clear_X0_clear
theorem dX4_clear_0 : decode cX4_clear 0 = .ok (.aload_n 0, 1) := by decide +kernel
theorem dX4_clear_1 : decode cX4_clear 1 = .ok (.getfield 14, 3) := by decide +kernel
theorem dX4_clear_4 : decode cX4_clear 4 = .ok (.invokevirtual 23, 3) := by decide +kernel
theorem dX4_clear_7 : decode cX4_clear 7 = .ok (.aload_n 0, 1) := by decide +kernel
theorem dX4_clear_8 : decode cX4_clear 8 = .ok (.getfield 20, 3) := by decide +kernel
theorem dX4_clear_11 : decode cX4_clear 11 = .ok (.invokevirtual 23, 3) := by decide +kernel
theorem dX4_clear_14 : decode cX4_clear 14 = .ok (.aload_n 0, 1) := by decide +kernel
theorem dX4_clear_15 : decode cX4_clear 15 = .ok (.iconst 0, 1) := by decide +kernel
theorem dX4_clear_16 : decode cX4_clear 16 = .ok (.putfield 26, 3) := by decide +kernel
theorem dX4_clear_19 : decode cX4_clear 19 = .ok (.aload_n 0, 1) := by decide +kernel
theorem dX4_clear_20 : decode cX4_clear 20 = .ok (.iconst 4, 1) := by decide +kernel
theorem dX4_clear_21 : decode cX4_clear 21 = .ok (.putfield 30, 3) := by decide +kernel
theorem dX4_clear_24 : decode cX4_clear 24 = .ok (.aload_n 0, 1) := by decide +kernel
theorem dX4_clear_25 : decode cX4_clear 25 = .ok (.iconst 2, 1) := by decide +kernel
theorem dX4_clear_26 : decode cX4_clear 26 = .ok (.putfield 33, 3) := by decide +kernel
theorem dX4_clear_29 : decode cX4_clear 29 = .ok (.aload_n 0, 1) := by decide +kernel
theorem dX4_clear_30 : decode cX4_clear 30 = .ok (.iconst 1, 1) := by decide +kernel
theorem dX4_clear_31 : decode cX4_clear 31 = .ok (.putfield 36, 3) := by decide +kernel
theorem dX4_clear_34 : decode cX4_clear 34 = .ok (.aload_n 0, 1) := by decide +kernel
theorem dX4_clear_35 : decode cX4_clear 35 = .ok (.iconst 0, 1) := by decide +kernel
theorem dX4_clear_36 : decode cX4_clear 36 = .ok (.putfield 39, 3) := by decide +kernel
theorem dX4_clear_39 : decode cX4_clear 39 = .ok (.return_, 1) := by decide +kernel
set_option maxRecDepth 20000 in
theorem ggX4_copyFrom_X0_copyFrom : GoodIn wsX4_copyFrom wsX0_copyFrom := goodIn_r _ [12, 13, 14, 15, 16, 17, 18, 19, 20, 21, 22, 23, 24, 25, 26, 27, 28, 29, 30, 31, 32, 33, 34, 35, 36, 37, 38, 39, 40, 41, 42, 43, 44, 45, 46, 47, 48, 56, 57, 58, 59, 60, 61, 62, 63, 64, 65, 66, 67, 68, 69, 70, 71, 72, 73, 74, 75, 76, 77] (by decide +kernel) (by decide +kernel)
set_option maxRecDepth 20000 in
theorem gX4_copyFrom_X0_copyFrom : GoodIn wsX4_copyFrom (wsV RX4 42 RX0 yX0_copyFrom wsX0_copyFrom) := goodIn_app (goodIn_of _ (by decide +kernel)) ggX4_copyFrom_X0_copyFrom
theorem dX4_copyFrom_0 : decode cX4_copyFrom 0 = .ok (.aload_n 0, 1) := by decide +kernel
theorem dX4_copyFrom_1 : decode cX4_copyFrom 1 = .ok (.getfield 14, 3) := by decide +kernel
