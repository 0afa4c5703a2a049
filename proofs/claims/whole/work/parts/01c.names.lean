theorem dX4_copyFrom_4 : decode cX4_copyFrom 4 = .ok (.aload_n 1, 1) := by decide +kernel
theorem dX4_copyFrom_5 : decode cX4_copyFrom 5 = .ok (.getfield 14, 3) := by decide +kernel
theorem dX4_copyFrom_8 : decode cX4_copyFrom 8 = .ok (.invokevirtual 42, 3) := by decide +kernel
theorem dX4_copyFrom_11 : decode cX4_copyFrom 11 = .ok (.aload_n 0, 1) := by decide +kernel
theorem dX4_copyFrom_12 : decode cX4_copyFrom 12 = .ok (.getfield 20, 3) := by decide +kernel
theorem dX4_copyFrom_15 : decode cX4_copyFrom 15 = .ok (.aload_n 1, 1) := by decide +kernel
theorem dX4_copyFrom_16 : decode cX4_copyFrom 16 = .ok (.getfield 20, 3) := by decide +kernel
theorem dX4_copyFrom_19 : decode cX4_copyFrom 19 = .ok (.invokevirtual 42, 3) := by decide +kernel
theorem dX4_copyFrom_22 : decode cX4_copyFrom 22 = .ok (.aload_n 0, 1) := by decide +kernel
theorem dX4_copyFrom_23 : decode cX4_copyFrom 23 = .ok (.aload_n 1, 1) := by decide +kernel
theorem dX4_copyFrom_24 : decode cX4_copyFrom 24 = .ok (.getfield 26, 3) := by decide +kernel
theorem dX4_copyFrom_27 : decode cX4_copyFrom 27 = .ok (.putfield 26, 3) := by decide +kernel
theorem dX4_copyFrom_30 : decode cX4_copyFrom 30 = .ok (.aload_n 0, 1) := by decide +kernel
theorem dX4_copyFrom_31 : decode cX4_copyFrom 31 = .ok (.aload_n 1, 1) := by decide +kernel
theorem dX4_copyFrom_32 : decode cX4_copyFrom 32 = .ok (.getfield 30, 3) := by decide +kernel
theorem dX4_copyFrom_35 : decode cX4_copyFrom 35 = .ok (.putfield 30, 3) := by decide +kernel
theorem dX4_copyFrom_38 : decode cX4_copyFrom 38 = .ok (.aload_n 0, 1) := by decide +kernel
theorem dX4_copyFrom_39 : decode cX4_copyFrom 39 = .ok (.aload_n 1, 1) := by decide +kernel
theorem dX4_copyFrom_40 : decode cX4_copyFrom 40 = .ok (.getfield 33, 3) := by decide +kernel
theorem dX4_copyFrom_43 : decode cX4_copyFrom 43 = .ok (.putfield 33, 3) := by decide +kernel
theorem dX4_copyFrom_46 : decode cX4_copyFrom 46 = .ok (.aload_n 0, 1) := by decide +kernel
theorem dX4_copyFrom_47 : decode cX4_copyFrom 47 = .ok (.aload_n 1, 1) := by decide +kernel
theorem dX4_copyFrom_48 : decode cX4_copyFrom 48 = .ok (.getfield 36, 3) := by decide +kernel
theorem dX4_copyFrom_51 : decode cX4_copyFrom 51 = .ok (.putfield 36, 3) := by decide +kernel
theorem dX4_copyFrom_54 : decode cX4_copyFrom 54 = .ok (.aload_n 0, 1) := by decide +kernel
theorem dX4_copyFrom_55 : decode cX4_copyFrom 55 = .ok (.aload_n 1, 1) := by decide +kernel
theorem dX4_copyFrom_56 : decode cX4_copyFrom 56 = .ok (.getfield 39, 3) := by decide +kernel
theorem dX4_copyFrom_59 : decode cX4_copyFrom 59 = .ok (.putfield 39, 3) := by decide +kernel
theorem dX4_copyFrom_62 : decode cX4_copyFrom 62 = .ok (.return_, 1) := by decide +kernel
set_option maxRecDepth 20000 in
theorem ggX4_looksLike_X0_looksLike : GoodIn wsX4_looksLike wsX0_looksLike := goodIn_r _ [7, 8, 9, 10, 11, 19, 20, 21, 22, 23, 24, 25, 26, 27, 28, 29, 30, 31, 32, 33, 34, 35] (by decide +kernel) (by decide +kernel)
set_option maxRecDepth 20000 in
theorem gX4_looksLike_X0_looksLike : GoodIn wsX4_looksLike (wsV RX4 46 RX0 yX0_looksLike wsX0_looksLike) := goodIn_app (goodIn_of _ (by decide +kernel)) ggX4_looksLike_X0_looksLike
theorem dX4_looksLike_0 : decode cX4_looksLike 0 = .ok (.aload_n 0, 1) := by decide +kernel
theorem dX4_looksLike_1 : decode cX4_looksLike 1 = .ok (.getfield 14, 3) := by decide +kernel
theorem dX4_looksLike_4 : decode cX4_looksLike 4 = .ok (.aload_n 1, 1) := by decide +kernel
theorem dX4_looksLike_5 : decode cX4_looksLike 5 = .ok (.getfield 14, 3) := by decide +kernel
theorem dX4_looksLike_8 : decode cX4_looksLike 8 = .ok (.invokevirtual 46, 3) := by decide +kernel
theorem dX4_looksLike_11 : decode cX4_looksLike 11 = .ok (.ifCond .eq 21, 3) := by decide +kernel
theorem dX4_looksLike_14 : decode cX4_looksLike 14 = .ok (.aload_n 0, 1) := by decide +kernel
theorem dX4_looksLike_15 : decode cX4_looksLike 15 = .ok (.getfield 20, 3) := by decide +kernel
theorem dX4_looksLike_18 : decode cX4_looksLike 18 = .ok (.aload_n 1, 1) := by decide +kernel
theorem dX4_looksLike_19 : decode cX4_looksLike 19 = .ok (.getfield 20, 3) := by decide +kernel
theorem dX4_looksLike_22 : decode cX4_looksLike 22 = .ok (.invokevirtual 46, 3) := by decide +kernel
theorem dX4_looksLike_25 : decode cX4_looksLike 25 = .ok (.ifCond .eq 7, 3) := by decide +kernel
theorem dX4_looksLike_28 : decode cX4_looksLike 28 = .ok (.iconst 1, 1) := by decide +kernel
theorem dX4_looksLike_29 : decode cX4_looksLike 29 = .ok (.goto 4, 3) := by decide +kernel
theorem dX4_looksLike_32 : decode cX4_looksLike 32 = .ok (.iconst 0, 1) := by decide +kernel
theorem dX4_looksLike_33 : decode cX4_looksLike 33 = .ok (.ireturn, 1) := by decide +kernel
theorem dX4_endOf_0 : decode cX4_endOf 0 = .ok (.iload_n 1, 1) := by decide +kernel
theorem dX4_endOf_1 : decode cX4_endOf 1 = .ok (.ifCond .ne 8, 3) := by decide +kernel
theorem dX4_endOf_4 : decode cX4_endOf 4 = .ok (.aload_n 0, 1) := by decide +kernel
theorem dX4_endOf_5 : decode cX4_endOf 5 = .ok (.getfield 14, 3) := by decide +kernel
theorem dX4_endOf_8 : decode cX4_endOf 8 = .ok (.areturn, 1) := by decide +kernel
theorem dX4_endOf_9 : decode cX4_endOf 9 = .ok (.iload_n 1, 1) := by decide +kernel
theorem dX4_endOf_10 : decode cX4_endOf 10 = .ok (.iconst 1, 1) := by decide +kernel
theorem dX4_endOf_11 : decode cX4_endOf 11 = .ok (.if_icmp .ne 10, 3) := by decide +kernel
theorem dX4_endOf_14 : decode cX4_endOf 14 = .ok (.aload_n 0, 1) := by decide +kernel
theorem dX4_endOf_15 : decode cX4_endOf 15 = .ok (.getfield 20, 3) := by decide +kernel
theorem dX4_endOf_18 : decode cX4_endOf 18 = .ok (.goto 4, 3) := by decide +kernel
theorem dX4_endOf_21 : decode cX4_endOf 21 = .ok (.aconst_null, 1) := by decide +kernel
theorem dX4_endOf_22 : decode cX4_endOf 22 = .ok (.areturn, 1) := by decide +kernel
set_option maxRecDepth 20000 in
theorem ggX4_portOf_X4_endOf : GoodIn wsX4_portOf wsX4_endOf := goodIn_r _ [6, 7, 8, 15, 16, 17, 18, 19, 20, 21] (by decide +kernel) (by decide +kernel)
set_option maxRecDepth 20000 in
theorem gX4_portOf_X4_endOf : GoodIn wsX4_portOf (wsV RX4 50 RX4 yX4_endOf wsX4_endOf) := goodIn_app (goodIn_of _ (by decide +kernel)) ggX4_portOf_X4_endOf
set_option maxRecDepth 20000 in
theorem ggX4_portOf_X0_portAt : GoodIn wsX4_portOf wsX0_portAt := goodIn_r _ [13, 14, 22, 23, 24, 25] (by decide +kernel) (by decide +kernel)
set_option maxRecDepth 20000 in
theorem gX4_portOf_X0_portAt : GoodIn wsX4_portOf (wsV RX4 54 RX0 yX0_portAt wsX0_portAt) := goodIn_app (goodIn_of _ (by decide +kernel)) ggX4_portOf_X0_portAt
theorem dX4_portOf_0 : decode cX4_portOf 0 = .ok (.aload_n 0, 1) := by decide +kernel
theorem dX4_portOf_1 : decode cX4_portOf 1 = .ok (.iload_n 1, 1) := by decide +kernel
theorem dX4_portOf_2 : decode cX4_portOf 2 = .ok (.invokevirtual 50, 3) := by decide +kernel
theorem dX4_portOf_5 : decode cX4_portOf 5 = .ok (.astore_n 3, 1) := by decide +kernel
theorem dX4_portOf_6 : decode cX4_portOf 6 = .ok (.aload_n 3, 1) := by decide +kernel
theorem dX4_portOf_7 : decode cX4_portOf 7 = .ok (.ifnull 11, 3) := by decide +kernel
theorem dX4_portOf_10 : decode cX4_portOf 10 = .ok (.iload_n 2, 1) := by decide +kernel
theorem dX4_portOf_11 : decode cX4_portOf 11 = .ok (.aload_n 0, 1) := by decide +kernel
theorem dX4_portOf_12 : decode cX4_portOf 12 = .ok (.getfield 26, 3) := by decide +kernel
theorem dX4_portOf_15 : decode cX4_portOf 15 = .ok (.if_icmp .lt 7, 3) := by decide +kernel
theorem dX4_portOf_18 : decode cX4_portOf 18 = .ok (.aconst_null, 1) := by decide +kernel
theorem dX4_portOf_19 : decode cX4_portOf 19 = .ok (.goto 8, 3) := by decide +kernel
theorem dX4_portOf_22 : decode cX4_portOf 22 = .ok (.aload_n 3, 1) := by decide +kernel
theorem dX4_portOf_23 : decode cX4_portOf 23 = .ok (.iload_n 2, 1) := by decide +kernel
theorem dX4_portOf_24 : decode cX4_portOf 24 = .ok (.invokevirtual 54, 3) := by decide +kernel
theorem dX4_portOf_27 : decode cX4_portOf 27 = .ok (.areturn, 1) := by decide +kernel
set_option maxRecDepth 20000 in
theorem ggX4_flowOf_X4_endOf : GoodIn wsX4_flowOf wsX4_endOf := goodIn_r _ [5, 6, 7, 14, 15, 16, 17, 18, 19, 20] (by decide +kernel) (by decide +kernel)
set_option maxRecDepth 20000 in
theorem gX4_flowOf_X4_endOf : GoodIn wsX4_flowOf (wsV RX4 50 RX4 yX4_endOf wsX4_endOf) := goodIn_app (goodIn_of _ (by decide +kernel)) ggX4_flowOf_X4_endOf
set_option maxRecDepth 20000 in
theorem ggX4_flowOf_X0_flowAt : GoodIn wsX4_flowOf wsX0_flowAt := goodIn_r _ [12, 13, 21, 22, 23, 24] (by decide +kernel) (by decide +kernel)
set_option maxRecDepth 20000 in
theorem gX4_flowOf_X0_flowAt : GoodIn wsX4_flowOf (wsV RX4 58 RX0 yX0_flowAt wsX0_flowAt) := goodIn_app (goodIn_of _ (by decide +kernel)) ggX4_flowOf_X0_flowAt
theorem dX4_flowOf_0 : decode cX4_flowOf 0 = .ok (.aload_n 0, 1) := by decide +kernel
theorem dX4_flowOf_1 : decode cX4_flowOf 1 = .ok (.iload_n 1, 1) := by decide +kernel
theorem dX4_flowOf_2 : decode cX4_flowOf 2 = .ok (.invokevirtual 50, 3) := by decide +kernel
theorem dX4_flowOf_5 : decode cX4_flowOf 5 = .ok (.astore_n 3, 1) := by decide +kernel
theorem dX4_flowOf_6 : decode cX4_flowOf 6 = .ok (.aload_n 3, 1) := by decide +kernel
theorem dX4_flowOf_7 : decode cX4_flowOf 7 = .ok (.ifnonnull 7, 3) := by decide +kernel
theorem dX4_flowOf_10 : decode cX4_flowOf 10 = .ok (.aconst_null, 1) := by decide +kernel
theorem dX4_flowOf_11 : decode cX4_flowOf 11 = .ok (.goto 8, 3) := by decide +kernel
theorem dX4_flowOf_14 : decode cX4_flowOf 14 = .ok (.aload_n 3, 1) := by decide +kernel
theorem dX4_flowOf_15 : decode cX4_flowOf 15 = .ok (.iload_n 2, 1) := by decide +kernel
theorem dX4_flowOf_16 : decode cX4_flowOf 16 = .ok (.invokevirtual 58, 3) := by decide +kernel
theorem dX4_flowOf_19 : decode cX4_flowOf 19 = .ok (.areturn, 1) := by decide +kernel
set_option maxRecDepth 20000 in
theorem ggX4_plugLink_X4_portOf : GoodIn wsX4_plugLink wsX4_portOf := goodIn_r _ [6, 7, 8, 9, 10, 5, 11, 12, 13, 14, 15, 16, 17, 18, 19, 31, 32, 33, 34, 35, 36, 37, 38, 39, 40, 41] (by decide +kernel) (by decide +kernel)
set_option maxRecDepth 20000 in
theorem gX4_plugLink_X4_portOf : GoodIn wsX4_plugLink (wsV RX4 62 RX4 yX4_portOf wsX4_portOf) := goodIn_app (goodIn_of _ (by decide +kernel)) ggX4_plugLink_X4_portOf
theorem dX4_plugLink_0 : decode cX4_plugLink 0 = .ok (.aload_n 0, 1) := by decide +kernel
theorem dX4_plugLink_1 : decode cX4_plugLink 1 = .ok (.iconst 0, 1) := by decide +kernel
theorem dX4_plugLink_2 : decode cX4_plugLink 2 = .ok (.iload_n 1, 1) := by decide +kernel
theorem dX4_plugLink_3 : decode cX4_plugLink 3 = .ok (.invokevirtual 62, 3) := by decide +kernel
theorem dX4_plugLink_6 : decode cX4_plugLink 6 = .ok (.astore_n 3, 1) := by decide +kernel
theorem dX4_plugLink_7 : decode cX4_plugLink 7 = .ok (.aload_n 0, 1) := by decide +kernel
theorem dX4_plugLink_8 : decode cX4_plugLink 8 = .ok (.iconst 1, 1) := by decide +kernel
theorem dX4_plugLink_9 : decode cX4_plugLink 9 = .ok (.iload_n 1, 1) := by decide +kernel
theorem dX4_plugLink_10 : decode cX4_plugLink 10 = .ok (.invokevirtual 62, 3) := by decide +kernel
theorem dX4_plugLink_13 : decode cX4_plugLink 13 = .ok (.astore 4, 2) := by decide +kernel
theorem dX4_plugLink_15 : decode cX4_plugLink 15 = .ok (.aload_n 3, 1) := by decide +kernel
theorem dX4_plugLink_16 : decode cX4_plugLink 16 = .ok (.ifnull 19, 3) := by decide +kernel
theorem dX4_plugLink_19 : decode cX4_plugLink 19 = .ok (.aload 4, 2) := by decide +kernel
theorem dX4_plugLink_21 : decode cX4_plugLink 21 = .ok (.ifnull 14, 3) := by decide +kernel
theorem dX4_plugLink_24 : decode cX4_plugLink 24 = .ok (.aload_n 3, 1) := by decide +kernel
theorem dX4_plugLink_25 : decode cX4_plugLink 25 = .ok (.iload_n 2, 1) := by decide +kernel
theorem dX4_plugLink_26 : decode cX4_plugLink 26 = .ok (.putfield 66, 3) := by decide +kernel
theorem dX4_plugLink_29 : decode cX4_plugLink 29 = .ok (.aload 4, 2) := by decide +kernel
theorem dX4_plugLink_31 : decode cX4_plugLink 31 = .ok (.iload_n 2, 1) := by decide +kernel
theorem dX4_plugLink_32 : decode cX4_plugLink 32 = .ok (.putfield 66, 3) := by decide +kernel
theorem dX4_plugLink_35 : decode cX4_plugLink 35 = .ok (.return_, 1) := by decide +kernel
theorem dX4_setting_0 : decode cX4_setting 0 = .ok (.iload_n 1, 1) := by decide +kernel
theorem dX4_setting_1 : decode cX4_setting 1 = .ok (.lookupswitch 43 #[(0, 27), (1, 35)], 27) := by decide +kernel
theorem dX4_setting_28 : decode cX4_setting 28 = .ok (.aload_n 0, 1) := by decide +kernel
theorem dX4_setting_29 : decode cX4_setting 29 = .ok (.getfield 14, 3) := by decide +kernel
theorem dX4_setting_32 : decode cX4_setting 32 = .ok (.getfield 72, 3) := by decide +kernel
theorem dX4_setting_35 : decode cX4_setting 35 = .ok (.ireturn, 1) := by decide +kernel
theorem dX4_setting_36 : decode cX4_setting 36 = .ok (.aload_n 0, 1) := by decide +kernel
theorem dX4_setting_37 : decode cX4_setting 37 = .ok (.getfield 20, 3) := by decide +kernel
theorem dX4_setting_40 : decode cX4_setting 40 = .ok (.getfield 72, 3) := by decide +kernel
theorem dX4_setting_43 : decode cX4_setting 43 = .ok (.ireturn, 1) := by decide +kernel
theorem dX4_setting_44 : decode cX4_setting 44 = .ok (.aload_n 0, 1) := by decide +kernel
theorem dX4_setting_45 : decode cX4_setting 45 = .ok (.getfield 30, 3) := by decide +kernel
theorem dX4_setting_48 : decode cX4_setting 48 = .ok (.ireturn, 1) := by decide +kernel
theorem dX4_changeSetting_0 : decode cX4_changeSetting 0 = .ok (.iload_n 1, 1) := by decide +kernel
theorem dX4_changeSetting_1 : decode cX4_changeSetting 1 = .ok (.lookupswitch 49 #[(0, 27), (1, 38)], 27) := by decide +kernel
theorem dX4_changeSetting_28 : decode cX4_changeSetting 28 = .ok (.aload_n 0, 1) := by decide +kernel
theorem dX4_changeSetting_29 : decode cX4_changeSetting 29 = .ok (.getfield 14, 3) := by decide +kernel
theorem dX4_changeSetting_32 : decode cX4_changeSetting 32 = .ok (.iload_n 2, 1) := by decide +kernel
theorem dX4_changeSetting_33 : decode cX4_changeSetting 33 = .ok (.putfield 72, 3) := by decide +kernel
theorem dX4_changeSetting_36 : decode cX4_changeSetting 36 = .ok (.goto 19, 3) := by decide +kernel
theorem dX4_changeSetting_39 : decode cX4_changeSetting 39 = .ok (.aload_n 0, 1) := by decide +kernel
theorem dX4_changeSetting_40 : decode cX4_changeSetting 40 = .ok (.getfield 20, 3) := by decide +kernel
theorem dX4_changeSetting_43 : decode cX4_changeSetting 43 = .ok (.iload_n 2, 1) := by decide +kernel
theorem dX4_changeSetting_44 : decode cX4_changeSetting 44 = .ok (.putfield 72, 3) := by decide +kernel
theorem dX4_changeSetting_47 : decode cX4_changeSetting 47 = .ok (.goto 8, 3) := by decide +kernel
theorem dX4_changeSetting_50 : decode cX4_changeSetting 50 = .ok (.aload_n 0, 1) := by decide +kernel
theorem dX4_changeSetting_51 : decode cX4_changeSetting 51 = .ok (.iload_n 2, 1) := by decide +kernel
theorem dX4_changeSetting_52 : decode cX4_changeSetting 52 = .ok (.putfield 30, 3) := by decide +kernel
theorem dX4_changeSetting_55 : decode cX4_changeSetting 55 = .ok (.return_, 1) := by decide +kernel
set_option maxRecDepth 20000 in
theorem ggX4_step_X0_hearFrom : GoodIn wsX4_step wsX0_hearFrom := goodIn_r _ [8, 9, 10, 11, 12, 13, 14, 15, 16, 17, 18, 19, 20, 21, 22, 23, 24, 25, 26, 27, 28, 29, 120, 121, 122, 123, 124, 125, 126, 127, 128, 129, 130, 131, 132, 133, 134, 135, 136, 137, 138, 139] (by decide +kernel) (by decide +kernel)
set_option maxRecDepth 20000 in
theorem gX4_step_X0_hearFrom : GoodIn wsX4_step (wsV RX4 75 RX0 yX0_hearFrom wsX0_hearFrom) := goodIn_app (goodIn_of _ (by decide +kernel)) ggX4_step_X0_hearFrom
set_option maxRecDepth 20000 in
theorem ggX4_step_X4_stepOf : GoodIn wsX4_step wsX4_stepOf := goodIn_r _ [34, 35, 36, 37, 38, 39, 40, 7, 41, 9, 42, 43, 44, 45, 46, 47, 48, 49, 50, 51, 52, 53, 54, 55, 56, 57, 58, 14, 59, 60, 17, 61, 62, 63, 64, 65, 66, 67, 68, 69, 70, 71, 72, 73, 74, 75, 76, 77, 78, 79, 80, 81, 82, 83, 16, 18, 84, 85, 86, 87, 88, 89, 90, 91, 92, 93, 94, 95, 96, 97, 98, 99, 100, 101, 102, 103, 104, 105, 106, 107, 108, 109, 110, 111, 112, 113, 114, 115, 116, 117, 118, 119, 120, 121, 122, 123, 124, 125, 126, 127, 128, 129, 130, 131, 132, 133, 134, 135, 136, 137, 138, 139, 140, 141] (by decide +kernel) (by decide +kernel)
set_option maxRecDepth 20000 in
theorem gX4_step_X4_stepOf : GoodIn wsX4_step (wsV RX4 78 RX4 yX4_stepOf wsX4_stepOf) := goodIn_app (goodIn_of _ (by decide +kernel)) ggX4_step_X4_stepOf
theorem dX4_step_0 : decode cX4_step 0 = .ok (.aload_n 0, 1) := by decide +kernel
theorem dX4_step_1 : decode cX4_step 1 = .ok (.getfield 14, 3) := by decide +kernel
theorem dX4_step_4 : decode cX4_step 4 = .ok (.aload_n 0, 1) := by decide +kernel
theorem dX4_step_5 : decode cX4_step 5 = .ok (.getfield 20, 3) := by decide +kernel
theorem dX4_step_8 : decode cX4_step 8 = .ok (.invokevirtual 75, 3) := by decide +kernel
theorem dX4_step_11 : decode cX4_step 11 = .ok (.aload_n 0, 1) := by decide +kernel
theorem dX4_step_12 : decode cX4_step 12 = .ok (.getfield 20, 3) := by decide +kernel
theorem dX4_step_15 : decode cX4_step 15 = .ok (.aload_n 0, 1) := by decide +kernel
theorem dX4_step_16 : decode cX4_step 16 = .ok (.getfield 14, 3) := by decide +kernel
theorem dX4_step_19 : decode cX4_step 19 = .ok (.invokevirtual 75, 3) := by decide +kernel
theorem dX4_step_22 : decode cX4_step 22 = .ok (.aload_n 0, 1) := by decide +kernel
theorem dX4_step_23 : decode cX4_step 23 = .ok (.aload_n 0, 1) := by decide +kernel
theorem dX4_step_24 : decode cX4_step 24 = .ok (.getfield 14, 3) := by decide +kernel
theorem dX4_step_27 : decode cX4_step 27 = .ok (.invokevirtual 78, 3) := by decide +kernel
theorem dX4_step_30 : decode cX4_step 30 = .ok (.aload_n 0, 1) := by decide +kernel
theorem dX4_step_31 : decode cX4_step 31 = .ok (.aload_n 0, 1) := by decide +kernel
theorem dX4_step_32 : decode cX4_step 32 = .ok (.getfield 20, 3) := by decide +kernel
theorem dX4_step_35 : decode cX4_step 35 = .ok (.invokevirtual 78, 3) := by decide +kernel
theorem dX4_step_38 : decode cX4_step 38 = .ok (.aload_n 0, 1) := by decide +kernel
theorem dX4_step_39 : decode cX4_step 39 = .ok (.dup, 1) := by decide +kernel
theorem dX4_step_40 : decode cX4_step 40 = .ok (.getfield 39, 3) := by decide +kernel
theorem dX4_step_43 : decode cX4_step 43 = .ok (.iconst 1, 1) := by decide +kernel
theorem dX4_step_44 : decode cX4_step 44 = .ok (.iadd, 1) := by decide +kernel
theorem dX4_step_45 : decode cX4_step 45 = .ok (.putfield 39, 3) := by decide +kernel
theorem dX4_step_48 : decode cX4_step 48 = .ok (.return_, 1) := by decide +kernel
set_option maxRecDepth 20000 in
theorem ggX4_stepOf_X0_choose : GoodIn wsX4_stepOf wsX0_choose := goodIn_r _ [8, 9, 10, 11, 12, 13, 7, 14, 15, 16, 17, 18, 19, 20, 21, 22, 23, 24, 25, 26, 27, 28, 29, 30, 31, 32, 33, 34, 35, 36, 37, 92, 93, 94, 95, 96, 97, 98, 99, 100, 101, 102, 103, 104, 105, 106, 107, 108, 109, 110, 111] (by decide +kernel) (by decide +kernel)
set_option maxRecDepth 20000 in
theorem gX4_stepOf_X0_choose : GoodIn wsX4_stepOf (wsV RX4 81 RX0 yX0_choose wsX0_choose) := goodIn_app (goodIn_of _ (by decide +kernel)) ggX4_stepOf_X0_choose
set_option maxRecDepth 20000 in
theorem ggX4_stepOf_X0_judgeAndSay : GoodIn wsX4_stepOf wsX0_judgeAndSay := goodIn_r _ [41, 9, 19, 42, 43, 44, 27, 45, 46, 47, 48, 49, 50, 51, 52, 53, 54, 30, 55, 56, 57, 58, 59, 60, 61, 62, 29, 31, 36, 37, 63, 92, 93, 94, 95, 96, 97, 98, 99, 100, 101, 102, 103, 104, 105, 106, 107, 108, 109, 110, 111] (by decide +kernel) (by decide +kernel)
set_option maxRecDepth 20000 in
theorem gX4_stepOf_X0_judgeAndSay : GoodIn wsX4_stepOf (wsV RX4 84 RX0 yX0_judgeAndSay wsX0_judgeAndSay) := goodIn_app (goodIn_of _ (by decide +kernel)) ggX4_stepOf_X0_judgeAndSay
set_option maxRecDepth 20000 in
theorem ggX4_stepOf_X0_dealFlows : GoodIn wsX4_stepOf wsX0_dealFlows := goodIn_r _ [67, 68, 69, 70, 71, 7, 72, 9, 73, 74, 75, 76, 77, 78, 79, 80, 81, 82, 83, 84, 92, 93, 94, 95, 96, 97, 98, 99, 100, 101, 102, 103, 104, 105, 106, 112, 113] (by decide +kernel) (by decide +kernel)
set_option maxRecDepth 20000 in
theorem gX4_stepOf_X0_dealFlows : GoodIn wsX4_stepOf (wsV RX4 87 RX0 yX0_dealFlows wsX0_dealFlows) := goodIn_app (goodIn_of _ (by decide +kernel)) ggX4_stepOf_X0_dealFlows
theorem dX4_stepOf_0 : decode cX4_stepOf 0 = .ok (.aload_n 1, 1) := by decide +kernel
theorem dX4_stepOf_1 : decode cX4_stepOf 1 = .ok (.aload_n 0, 1) := by decide +kernel
theorem dX4_stepOf_2 : decode cX4_stepOf 2 = .ok (.getfield 30, 3) := by decide +kernel
theorem dX4_stepOf_5 : decode cX4_stepOf 5 = .ok (.invokevirtual 81, 3) := by decide +kernel
theorem dX4_stepOf_8 : decode cX4_stepOf 8 = .ok (.aload_n 1, 1) := by decide +kernel
theorem dX4_stepOf_9 : decode cX4_stepOf 9 = .ok (.aload_n 0, 1) := by decide +kernel
theorem dX4_stepOf_10 : decode cX4_stepOf 10 = .ok (.getfield 33, 3) := by decide +kernel
theorem dX4_stepOf_13 : decode cX4_stepOf 13 = .ok (.invokevirtual 84, 3) := by decide +kernel
theorem dX4_stepOf_16 : decode cX4_stepOf 16 = .ok (.aload_n 1, 1) := by decide +kernel
theorem dX4_stepOf_17 : decode cX4_stepOf 17 = .ok (.aload_n 0, 1) := by decide +kernel
theorem dX4_stepOf_18 : decode cX4_stepOf 18 = .ok (.getfield 36, 3) := by decide +kernel
theorem dX4_stepOf_21 : decode cX4_stepOf 21 = .ok (.invokevirtual 87, 3) := by decide +kernel
theorem dX4_stepOf_24 : decode cX4_stepOf 24 = .ok (.return_, 1) := by decide +kernel
set_option maxRecDepth 20000 in
theorem ggX4_layOut_X4_clear : GoodIn wsX4_layOut wsX4_clear := goodIn_r _ [6, 7, 8, 9, 10, 11, 12, 13, 14, 15, 16, 17, 18, 19, 20, 21, 22, 23, 24, 25, 26, 27, 28, 29, 30, 31, 32, 33, 34, 35, 36, 37, 38, 39, 40, 41, 42, 43, 44, 45, 46, 47, 48, 49, 50, 51, 52, 53, 54, 94, 95, 96, 97, 98, 99, 100, 101, 102, 103, 104, 105, 106, 107, 108, 109, 110, 111, 112, 113, 114, 115, 116, 117, 118, 119, 120, 121, 122] (by decide +kernel) (by decide +kernel)
set_option maxRecDepth 20000 in
theorem gX4_layOut_X4_clear : GoodIn wsX4_layOut (wsV RX4 90 RX4 yX4_clear wsX4_clear) := goodIn_app (goodIn_of _ (by decide +kernel)) ggX4_layOut_X4_clear
set_option maxRecDepth 20000 in
theorem ggX4_layOut_X4_layItem : GoodIn wsX4_layOut wsX4_layItem := goodIn_r _ [58, 7, 59, 8, 10, 11, 12, 60, 61, 62, 63, 64, 65, 66, 67, 68, 69, 5, 70, 9, 71, 72, 73, 17, 74, 20, 75, 76, 77, 78, 79, 80, 81, 82, 25, 83, 27, 34, 29, 30, 94, 95, 96, 97, 98, 99, 100, 101, 102, 103, 104, 92, 93, 105, 106, 107, 108, 109, 110, 111, 112, 113, 114, 115] (by decide +kernel) (by decide +kernel)
set_option maxRecDepth 20000 in
theorem gX4_layOut_X4_layItem : GoodIn wsX4_layOut (wsV RX4 96 RX4 yX4_layItem wsX4_layItem) := goodIn_app (goodIn_of _ (by decide +kernel)) ggX4_layOut_X4_layItem
set_option maxRecDepth 20000 in
theorem ggX4_layOut_X6_lengthOfItem : GoodIn wsX4_layOut wsX6_lengthOfItem := goodIn_r _ [87, 88, 89, 90, 63, 91, 79, 61, 62, 64, 65, 66, 92, 93] (by decide +kernel) (by decide +kernel)
set_option maxRecDepth 20000 in
theorem gX4_layOut_X6_lengthOfItem : GoodIn wsX4_layOut (wsV RX4 100 RX6 yX6_lengthOfItem wsX6_lengthOfItem) := goodIn_app (goodIn_of _ (by decide +kernel)) ggX4_layOut_X6_lengthOfItem
theorem dX4_layOut_0 : decode cX4_layOut 0 = .ok (.aload_n 0, 1) := by decide +kernel
theorem dX4_layOut_1 : decode cX4_layOut 1 = .ok (.invokevirtual 90, 3) := by decide +kernel
theorem dX4_layOut_4 : decode cX4_layOut 4 = .ok (.iconst 0, 1) := by decide +kernel
theorem dX4_layOut_5 : decode cX4_layOut 5 = .ok (.istore_n 2, 1) := by decide +kernel
theorem dX4_layOut_6 : decode cX4_layOut 6 = .ok (.iconst 0, 1) := by decide +kernel
theorem dX4_layOut_7 : decode cX4_layOut 7 = .ok (.istore_n 3, 1) := by decide +kernel
theorem dX4_layOut_8 : decode cX4_layOut 8 = .ok (.iload_n 3, 1) := by decide +kernel
theorem dX4_layOut_9 : decode cX4_layOut 9 = .ok (.sipush 200, 3) := by decide +kernel
theorem dX4_layOut_12 : decode cX4_layOut 12 = .ok (.if_icmp .ge 31, 3) := by decide +kernel
theorem dX4_layOut_15 : decode cX4_layOut 15 = .ok (.iload_n 2, 1) := by decide +kernel
theorem dX4_layOut_16 : decode cX4_layOut 16 = .ok (.aload_n 1, 1) := by decide +kernel
theorem dX4_layOut_17 : decode cX4_layOut 17 = .ok (.getfield 91, 3) := by decide +kernel
theorem dX4_layOut_20 : decode cX4_layOut 20 = .ok (.if_icmp .ge 23, 3) := by decide +kernel
theorem dX4_layOut_23 : decode cX4_layOut 23 = .ok (.aload_n 0, 1) := by decide +kernel
theorem dX4_layOut_24 : decode cX4_layOut 24 = .ok (.aload_n 1, 1) := by decide +kernel
theorem dX4_layOut_25 : decode cX4_layOut 25 = .ok (.iload_n 2, 1) := by decide +kernel
theorem dX4_layOut_26 : decode cX4_layOut 26 = .ok (.invokevirtual 96, 3) := by decide +kernel
theorem dX4_layOut_29 : decode cX4_layOut 29 = .ok (.iload_n 2, 1) := by decide +kernel
theorem dX4_layOut_30 : decode cX4_layOut 30 = .ok (.aload_n 1, 1) := by decide +kernel
theorem dX4_layOut_31 : decode cX4_layOut 31 = .ok (.iload_n 2, 1) := by decide +kernel
theorem dX4_layOut_32 : decode cX4_layOut 32 = .ok (.invokevirtual 100, 3) := by decide +kernel
theorem dX4_layOut_35 : decode cX4_layOut 35 = .ok (.iadd, 1) := by decide +kernel
theorem dX4_layOut_36 : decode cX4_layOut 36 = .ok (.istore_n 2, 1) := by decide +kernel
theorem dX4_layOut_37 : decode cX4_layOut 37 = .ok (.iinc 3 1, 3) := by decide +kernel
theorem dX4_layOut_40 : decode cX4_layOut 40 = .ok (.goto (-32), 3) := by decide +kernel
theorem dX4_layOut_43 : decode cX4_layOut 43 = .ok (.return_, 1) := by decide +kernel
set_option maxRecDepth 20000 in
theorem ggX4_layItem_X6_letterAt : GoodIn wsX4_layItem wsX6_letterAt := goodIn_r _ [11, 12, 13, 51, 52] (by decide +kernel) (by decide +kernel)
set_option maxRecDepth 20000 in
theorem gX4_layItem_X6_letterAt : GoodIn wsX4_layItem (wsV RX4 104 RX6 yX6_letterAt wsX6_letterAt) := goodIn_app (goodIn_of _ (by decide +kernel)) ggX4_layItem_X6_letterAt
set_option maxRecDepth 20000 in
theorem ggX4_layItem_X4_addLink : GoodIn wsX4_layItem wsX4_addLink := goodIn_r _ [18, 1, 19, 3, 20, 21, 22, 23, 24, 25, 26, 27, 28, 10, 29, 30, 8, 9, 11, 12, 13, 31, 32, 33, 34, 35, 36, 37, 38, 39, 40, 41, 42, 43, 44, 45, 46, 47, 48, 49, 50, 51, 52, 53, 54, 55, 56, 57, 58, 59, 60, 61, 62, 63] (by decide +kernel) (by decide +kernel)
set_option maxRecDepth 20000 in
theorem gX4_layItem_X4_addLink : GoodIn wsX4_layItem (wsV RX4 107 RX4 yX4_addLink wsX4_addLink) := goodIn_app (goodIn_of _ (by decide +kernel)) ggX4_layItem_X4_addLink
set_option maxRecDepth 20000 in
theorem ggX4_layItem_X6_number : GoodIn wsX4_layItem wsX6_number := goodIn_r _ [29, 30, 8, 9, 10, 11, 12, 13, 51, 52] (by decide +kernel) (by decide +kernel)
set_option maxRecDepth 20000 in
theorem gX4_layItem_X6_number : GoodIn wsX4_layItem (wsV RX4 110 RX6 yX6_number wsX6_number) := goodIn_app (goodIn_of _ (by decide +kernel)) ggX4_layItem_X6_number
theorem dX4_layItem_0 : decode cX4_layItem 0 = .ok (.aload_n 1, 1) := by decide +kernel
theorem dX4_layItem_1 : decode cX4_layItem 1 = .ok (.iload_n 2, 1) := by decide +kernel
theorem dX4_layItem_2 : decode cX4_layItem 2 = .ok (.invokevirtual 104, 3) := by decide +kernel
theorem dX4_layItem_5 : decode cX4_layItem 5 = .ok (.lookupswitch 106 #[(108, 35), (109, 73), (120, 44)], 35) := by decide +kernel
theorem dX4_layItem_40 : decode cX4_layItem 40 = .ok (.aload_n 0, 1) := by decide +kernel
theorem dX4_layItem_41 : decode cX4_layItem 41 = .ok (.aload_n 1, 1) := by decide +kernel
theorem dX4_layItem_42 : decode cX4_layItem 42 = .ok (.iload_n 2, 1) := by decide +kernel
theorem dX4_layItem_43 : decode cX4_layItem 43 = .ok (.invokevirtual 107, 3) := by decide +kernel
theorem dX4_layItem_46 : decode cX4_layItem 46 = .ok (.goto 65, 3) := by decide +kernel
theorem dX4_layItem_49 : decode cX4_layItem 49 = .ok (.aload_n 0, 1) := by decide +kernel
theorem dX4_layItem_50 : decode cX4_layItem 50 = .ok (.getfield 14, 3) := by decide +kernel
theorem dX4_layItem_53 : decode cX4_layItem 53 = .ok (.aload_n 1, 1) := by decide +kernel
theorem dX4_layItem_54 : decode cX4_layItem 54 = .ok (.iload_n 2, 1) := by decide +kernel
theorem dX4_layItem_55 : decode cX4_layItem 55 = .ok (.iconst 0, 1) := by decide +kernel
theorem dX4_layItem_56 : decode cX4_layItem 56 = .ok (.invokevirtual 110, 3) := by decide +kernel
theorem dX4_layItem_59 : decode cX4_layItem 59 = .ok (.putfield 72, 3) := by decide +kernel
theorem dX4_layItem_62 : decode cX4_layItem 62 = .ok (.aload_n 0, 1) := by decide +kernel
theorem dX4_layItem_63 : decode cX4_layItem 63 = .ok (.getfield 20, 3) := by decide +kernel
theorem dX4_layItem_66 : decode cX4_layItem 66 = .ok (.aload_n 1, 1) := by decide +kernel
theorem dX4_layItem_67 : decode cX4_layItem 67 = .ok (.iload_n 2, 1) := by decide +kernel
theorem dX4_layItem_68 : decode cX4_layItem 68 = .ok (.iconst 1, 1) := by decide +kernel
theorem dX4_layItem_69 : decode cX4_layItem 69 = .ok (.invokevirtual 110, 3) := by decide +kernel
theorem dX4_layItem_72 : decode cX4_layItem 72 = .ok (.putfield 72, 3) := by decide +kernel
theorem dX4_layItem_75 : decode cX4_layItem 75 = .ok (.goto 36, 3) := by decide +kernel
theorem dX4_layItem_78 : decode cX4_layItem 78 = .ok (.aload_n 0, 1) := by decide +kernel
theorem dX4_layItem_79 : decode cX4_layItem 79 = .ok (.aload_n 1, 1) := by decide +kernel
theorem dX4_layItem_80 : decode cX4_layItem 80 = .ok (.iload_n 2, 1) := by decide +kernel
theorem dX4_layItem_81 : decode cX4_layItem 81 = .ok (.iconst 0, 1) := by decide +kernel
theorem dX4_layItem_82 : decode cX4_layItem 82 = .ok (.invokevirtual 110, 3) := by decide +kernel
theorem dX4_layItem_85 : decode cX4_layItem 85 = .ok (.putfield 30, 3) := by decide +kernel
theorem dX4_layItem_88 : decode cX4_layItem 88 = .ok (.aload_n 0, 1) := by decide +kernel
theorem dX4_layItem_89 : decode cX4_layItem 89 = .ok (.aload_n 1, 1) := by decide +kernel
theorem dX4_layItem_90 : decode cX4_layItem 90 = .ok (.iload_n 2, 1) := by decide +kernel
theorem dX4_layItem_91 : decode cX4_layItem 91 = .ok (.iconst 1, 1) := by decide +kernel
theorem dX4_layItem_92 : decode cX4_layItem 92 = .ok (.invokevirtual 110, 3) := by decide +kernel
theorem dX4_layItem_95 : decode cX4_layItem 95 = .ok (.putfield 33, 3) := by decide +kernel
theorem dX4_layItem_98 : decode cX4_layItem 98 = .ok (.aload_n 0, 1) := by decide +kernel
theorem dX4_layItem_99 : decode cX4_layItem 99 = .ok (.aload_n 1, 1) := by decide +kernel
theorem dX4_layItem_100 : decode cX4_layItem 100 = .ok (.iload_n 2, 1) := by decide +kernel
theorem dX4_layItem_101 : decode cX4_layItem 101 = .ok (.iconst 2, 1) := by decide +kernel
theorem dX4_layItem_102 : decode cX4_layItem 102 = .ok (.invokevirtual 110, 3) := by decide +kernel
theorem dX4_layItem_105 : decode cX4_layItem 105 = .ok (.putfield 36, 3) := by decide +kernel
theorem dX4_layItem_108 : decode cX4_layItem 108 = .ok (.goto 3, 3) := by decide +kernel
theorem dX4_layItem_111 : decode cX4_layItem 111 = .ok (.return_, 1) := by decide +kernel
set_option maxRecDepth 20000 in
theorem ggX4_addLink_X0_portAt : GoodIn wsX4_addLink wsX0_portAt := goodIn_r _ [8, 9, 37, 38, 39, 40] (by decide +kernel) (by decide +kernel)
set_option maxRecDepth 20000 in
theorem gX4_addLink_X0_portAt : GoodIn wsX4_addLink (wsV RX4 54 RX0 yX0_portAt wsX0_portAt) := goodIn_app (goodIn_of _ (by decide +kernel)) ggX4_addLink_X0_portAt
set_option maxRecDepth 20000 in
theorem ggX4_addLink_X6_number : GoodIn wsX4_addLink wsX6_number := goodIn_r _ [14, 15, 16, 17, 13, 18, 19, 20, 41, 42] (by decide +kernel) (by decide +kernel)
set_option maxRecDepth 20000 in
theorem gX4_addLink_X6_number : GoodIn wsX4_addLink (wsV RX4 110 RX6 yX6_number wsX6_number) := goodIn_app (goodIn_of _ (by decide +kernel)) ggX4_addLink_X6_number
set_option maxRecDepth 20000 in
theorem ggX4_addLink_X5_begin : GoodIn wsX4_addLink wsX5_begin := goodIn_r _ [25, 26, 27, 28, 29, 43, 44, 45, 46, 47, 48, 49, 50, 51, 52, 53] (by decide +kernel) (by decide +kernel)
set_option maxRecDepth 20000 in
theorem gX4_addLink_X5_begin : GoodIn wsX4_addLink (wsV RX4 114 RX5 yX5_begin wsX5_begin) := goodIn_app (goodIn_of _ (by decide +kernel)) ggX4_addLink_X5_begin
theorem dX4_addLink_0 : decode cX4_addLink 0 = .ok (.aload_n 0, 1) := by decide +kernel
theorem dX4_addLink_1 : decode cX4_addLink 1 = .ok (.getfield 14, 3) := by decide +kernel
theorem dX4_addLink_4 : decode cX4_addLink 4 = .ok (.aload_n 0, 1) := by decide +kernel
theorem dX4_addLink_5 : decode cX4_addLink 5 = .ok (.getfield 26, 3) := by decide +kernel
theorem dX4_addLink_8 : decode cX4_addLink 8 = .ok (.invokevirtual 54, 3) := by decide +kernel
theorem dX4_addLink_11 : decode cX4_addLink 11 = .ok (.astore_n 3, 1) := by decide +kernel
theorem dX4_addLink_12 : decode cX4_addLink 12 = .ok (.aload_n 0, 1) := by decide +kernel
theorem dX4_addLink_13 : decode cX4_addLink 13 = .ok (.getfield 20, 3) := by decide +kernel
theorem dX4_addLink_16 : decode cX4_addLink 16 = .ok (.aload_n 0, 1) := by decide +kernel
theorem dX4_addLink_17 : decode cX4_addLink 17 = .ok (.getfield 26, 3) := by decide +kernel
theorem dX4_addLink_20 : decode cX4_addLink 20 = .ok (.invokevirtual 54, 3) := by decide +kernel
theorem dX4_addLink_23 : decode cX4_addLink 23 = .ok (.astore 4, 2) := by decide +kernel
theorem dX4_addLink_25 : decode cX4_addLink 25 = .ok (.aload_n 3, 1) := by decide +kernel
theorem dX4_addLink_26 : decode cX4_addLink 26 = .ok (.ifnull 51, 3) := by decide +kernel
theorem dX4_addLink_29 : decode cX4_addLink 29 = .ok (.aload 4, 2) := by decide +kernel
theorem dX4_addLink_31 : decode cX4_addLink 31 = .ok (.ifnull 46, 3) := by decide +kernel
theorem dX4_addLink_34 : decode cX4_addLink 34 = .ok (.aload_n 3, 1) := by decide +kernel
theorem dX4_addLink_35 : decode cX4_addLink 35 = .ok (.aload_n 1, 1) := by decide +kernel
theorem dX4_addLink_36 : decode cX4_addLink 36 = .ok (.iload_n 2, 1) := by decide +kernel
theorem dX4_addLink_37 : decode cX4_addLink 37 = .ok (.iconst 0, 1) := by decide +kernel
theorem dX4_addLink_38 : decode cX4_addLink 38 = .ok (.invokevirtual 110, 3) := by decide +kernel
theorem dX4_addLink_41 : decode cX4_addLink 41 = .ok (.aload_n 1, 1) := by decide +kernel
theorem dX4_addLink_42 : decode cX4_addLink 42 = .ok (.iload_n 2, 1) := by decide +kernel
theorem dX4_addLink_43 : decode cX4_addLink 43 = .ok (.iconst 1, 1) := by decide +kernel
theorem dX4_addLink_44 : decode cX4_addLink 44 = .ok (.invokevirtual 110, 3) := by decide +kernel
theorem dX4_addLink_47 : decode cX4_addLink 47 = .ok (.invokevirtual 114, 3) := by decide +kernel
theorem dX4_addLink_50 : decode cX4_addLink 50 = .ok (.aload 4, 2) := by decide +kernel
theorem dX4_addLink_52 : decode cX4_addLink 52 = .ok (.aload_n 1, 1) := by decide +kernel
theorem dX4_addLink_53 : decode cX4_addLink 53 = .ok (.iload_n 2, 1) := by decide +kernel
theorem dX4_addLink_54 : decode cX4_addLink 54 = .ok (.iconst 2, 1) := by decide +kernel
theorem dX4_addLink_55 : decode cX4_addLink 55 = .ok (.invokevirtual 110, 3) := by decide +kernel
theorem dX4_addLink_58 : decode cX4_addLink 58 = .ok (.aload_n 1, 1) := by decide +kernel
theorem dX4_addLink_59 : decode cX4_addLink 59 = .ok (.iload_n 2, 1) := by decide +kernel
theorem dX4_addLink_60 : decode cX4_addLink 60 = .ok (.iconst 3, 1) := by decide +kernel
theorem dX4_addLink_61 : decode cX4_addLink 61 = .ok (.invokevirtual 110, 3) := by decide +kernel
theorem dX4_addLink_64 : decode cX4_addLink 64 = .ok (.invokevirtual 114, 3) := by decide +kernel
theorem dX4_addLink_67 : decode cX4_addLink 67 = .ok (.aload_n 0, 1) := by decide +kernel
theorem dX4_addLink_68 : decode cX4_addLink 68 = .ok (.dup, 1) := by decide +kernel
theorem dX4_addLink_69 : decode cX4_addLink 69 = .ok (.getfield 26, 3) := by decide +kernel
theorem dX4_addLink_72 : decode cX4_addLink 72 = .ok (.iconst 1, 1) := by decide +kernel
theorem dX4_addLink_73 : decode cX4_addLink 73 = .ok (.iadd, 1) := by decide +kernel
theorem dX4_addLink_74 : decode cX4_addLink 74 = .ok (.putfield 26, 3) := by decide +kernel
theorem dX4_addLink_77 : decode cX4_addLink 77 = .ok (.return_, 1) := by decide +kernel
set_option maxRecDepth 20000 in
theorem ggX5_init_X3_init : GoodIn wsX5_init wsX3_init := goodIn_r _ [10, 11, 2, 3] (by decide +kernel) (by decide +kernel)
set_option maxRecDepth 20000 in
theorem gX5_init_X3_init_n11 : GoodIn wsX5_init (wsX3_init) := ggX5_init_X3_init
theorem dX5_init_0 : decode cX5_init 0 = .ok (.aload_n 0, 1) := by decide +kernel
theorem dX5_init_1 : decode cX5_init 1 = .ok (.invokespecial 3, 3) := by decide +kernel
theorem dX5_init_4 : decode cX5_init 4 = .ok (.aload_n 0, 1) := by decide +kernel
theorem dX5_init_5 : decode cX5_init 5 = .ok (.new 9, 3) := by decide +kernel
theorem dX5_init_8 : decode cX5_init 8 = .ok (.dup, 1) := by decide +kernel
theorem dX5_init_9 : decode cX5_init 9 = .ok (.invokespecial 11, 3) := by decide +kernel
theorem dX5_init_12 : decode cX5_init 12 = .ok (.putfield 12, 3) := by decide +kernel
theorem dX5_init_15 : decode cX5_init 15 = .ok (.aload_n 0, 1) := by decide +kernel
theorem dX5_init_16 : decode cX5_init 16 = .ok (.new 9, 3) := by decide +kernel
theorem dX5_init_19 : decode cX5_init 19 = .ok (.dup, 1) := by decide +kernel
theorem dX5_init_20 : decode cX5_init 20 = .ok (.invokespecial 11, 3) := by decide +kernel
theorem dX5_init_23 : decode cX5_init 23 = .ok (.putfield 18, 3) := by decide +kernel
theorem dX5_init_26 : decode cX5_init 26 = .ok (.return_, 1) := by decide +kernel
set_option maxRecDepth 20000 in
theorem ggX5_clear_X3_clear : GoodIn wsX5_clear wsX3_clear := goodIn_r _ [16, 17, 18, 19, 20, 21, 33, 34, 35, 36, 37] (by decide +kernel) (by decide +kernel)
set_option maxRecDepth 20000 in
theorem gX5_clear_X3_clear : GoodIn wsX5_clear (wsV RX5 35 RX3 yX3_clear wsX3_clear) := goodIn_app (goodIn_of _ (by decide +kernel)) ggX5_clear_X3_clear
theorem dX5_clear_0 : decode cX5_clear 0 = .ok (.aload_n 0, 1) := by decide +kernel
theorem dX5_clear_1 : decode cX5_clear 1 = .ok (.iconst 0, 1) := by decide +kernel
theorem dX5_clear_2 : decode cX5_clear 2 = .ok (.putfield 21, 3) := by decide +kernel
theorem dX5_clear_5 : decode cX5_clear 5 = .ok (.aload_n 0, 1) := by decide +kernel
theorem dX5_clear_6 : decode cX5_clear 6 = .ok (.iconst 0, 1) := by decide +kernel
theorem dX5_clear_7 : decode cX5_clear 7 = .ok (.putfield 25, 3) := by decide +kernel
theorem dX5_clear_10 : decode cX5_clear 10 = .ok (.aload_n 0, 1) := by decide +kernel
theorem dX5_clear_11 : decode cX5_clear 11 = .ok (.iconst 0, 1) := by decide +kernel
theorem dX5_clear_12 : decode cX5_clear 12 = .ok (.putfield 28, 3) := by decide +kernel
theorem dX5_clear_15 : decode cX5_clear 15 = .ok (.aload_n 0, 1) := by decide +kernel
theorem dX5_clear_16 : decode cX5_clear 16 = .ok (.iconst 0, 1) := by decide +kernel
theorem dX5_clear_17 : decode cX5_clear 17 = .ok (.putfield 32, 3) := by decide +kernel
theorem dX5_clear_20 : decode cX5_clear 20 = .ok (.aload_n 0, 1) := by decide +kernel
theorem dX5_clear_21 : decode cX5_clear 21 = .ok (.getfield 12, 3) := by decide +kernel
theorem dX5_clear_24 : decode cX5_clear 24 = .ok (.invokevirtual 35, 3) := by decide +kernel
theorem dX5_clear_27 : decode cX5_clear 27 = .ok (.aload_n 0, 1) := by decide +kernel
theorem dX5_clear_28 : decode cX5_clear 28 = .ok (.getfield 18, 3) := by decide +kernel
theorem dX5_clear_31 : decode cX5_clear 31 = .ok (.invokevirtual 35, 3) := by decide +kernel
theorem dX5_clear_34 : decode cX5_clear 34 = .ok (.aload_n 0, 1) := by decide +kernel
theorem dX5_clear_35 : decode cX5_clear 35 = .ok (.iconst 0, 1) := by decide +kernel
theorem dX5_clear_36 : decode cX5_clear 36 = .ok (.putfield 38, 3) := by decide +kernel
theorem dX5_clear_39 : decode cX5_clear 39 = .ok (.aload_n 0, 1) := by decide +kernel
theorem dX5_clear_40 : decode cX5_clear 40 = .ok (.iconst 0, 1) := by decide +kernel
theorem dX5_clear_41 : decode cX5_clear 41 = .ok (.putfield 41, 3) := by decide +kernel
theorem dX5_clear_44 : decode cX5_clear 44 = .ok (.aload_n 0, 1) := by decide +kernel
theorem dX5_clear_45 : decode cX5_clear 45 = .ok (.iconst 0, 1) := by decide +kernel
theorem dX5_clear_46 : decode cX5_clear 46 = .ok (.putfield 44, 3) := by decide +kernel
theorem dX5_clear_49 : decode cX5_clear 49 = .ok (.aload_n 0, 1) := by decide +kernel
theorem dX5_clear_50 : decode cX5_clear 50 = .ok (.iconst (-1), 1) := by decide +kernel
theorem dX5_clear_51 : decode cX5_clear 51 = .ok (.putfield 47, 3) := by decide +kernel
theorem dX5_clear_54 : decode cX5_clear 54 = .ok (.aload_n 0, 1) := by decide +kernel
theorem dX5_clear_55 : decode cX5_clear 55 = .ok (.iconst 0, 1) := by decide +kernel
theorem dX5_clear_56 : decode cX5_clear 56 = .ok (.putfield 50, 3) := by decide +kernel
theorem dX5_clear_59 : decode cX5_clear 59 = .ok (.return_, 1) := by decide +kernel
theorem dX5_begin_0 : decode cX5_begin 0 = .ok (.aload_n 0, 1) := by decide +kernel
theorem dX5_begin_1 : decode cX5_begin 1 = .ok (.iconst 1, 1) := by decide +kernel
theorem dX5_begin_2 : decode cX5_begin 2 = .ok (.putfield 21, 3) := by decide +kernel
theorem dX5_begin_5 : decode cX5_begin 5 = .ok (.aload_n 0, 1) := by decide +kernel
theorem dX5_begin_6 : decode cX5_begin 6 = .ok (.iconst 1, 1) := by decide +kernel
theorem dX5_begin_7 : decode cX5_begin 7 = .ok (.putfield 41, 3) := by decide +kernel
theorem dX5_begin_10 : decode cX5_begin 10 = .ok (.aload_n 0, 1) := by decide +kernel
theorem dX5_begin_11 : decode cX5_begin 11 = .ok (.iload_n 1, 1) := by decide +kernel
theorem dX5_begin_12 : decode cX5_begin 12 = .ok (.putfield 28, 3) := by decide +kernel
theorem dX5_begin_15 : decode cX5_begin 15 = .ok (.aload_n 0, 1) := by decide +kernel
theorem dX5_begin_16 : decode cX5_begin 16 = .ok (.iload_n 2, 1) := by decide +kernel
theorem dX5_begin_17 : decode cX5_begin 17 = .ok (.putfield 32, 3) := by decide +kernel
theorem dX5_begin_20 : decode cX5_begin 20 = .ok (.return_, 1) := by decide +kernel
set_option maxRecDepth 20000 in
theorem ggX5_copyFrom_X3_copyFrom : GoodIn wsX5_copyFrom wsX3_copyFrom := goodIn_r _ [16, 17, 18, 19, 20, 21, 33, 34, 35, 36, 37] (by decide +kernel) (by decide +kernel)
set_option maxRecDepth 20000 in
theorem gX5_copyFrom_X3_copyFrom : GoodIn wsX5_copyFrom (wsV RX5 53 RX3 yX3_copyFrom wsX3_copyFrom) := goodIn_app (goodIn_of _ (by decide +kernel)) ggX5_copyFrom_X3_copyFrom
theorem dX5_copyFrom_0 : decode cX5_copyFrom 0 = .ok (.aload_n 0, 1) := by decide +kernel
theorem dX5_copyFrom_1 : decode cX5_copyFrom 1 = .ok (.aload_n 1, 1) := by decide +kernel
theorem dX5_copyFrom_2 : decode cX5_copyFrom 2 = .ok (.getfield 21, 3) := by decide +kernel
theorem dX5_copyFrom_5 : decode cX5_copyFrom 5 = .ok (.putfield 21, 3) := by decide +kernel
theorem dX5_copyFrom_8 : decode cX5_copyFrom 8 = .ok (.aload_n 0, 1) := by decide +kernel
theorem dX5_copyFrom_9 : decode cX5_copyFrom 9 = .ok (.aload_n 1, 1) := by decide +kernel
theorem dX5_copyFrom_10 : decode cX5_copyFrom 10 = .ok (.getfield 25, 3) := by decide +kernel
theorem dX5_copyFrom_13 : decode cX5_copyFrom 13 = .ok (.putfield 25, 3) := by decide +kernel
theorem dX5_copyFrom_16 : decode cX5_copyFrom 16 = .ok (.aload_n 0, 1) := by decide +kernel
theorem dX5_copyFrom_17 : decode cX5_copyFrom 17 = .ok (.aload_n 1, 1) := by decide +kernel
theorem dX5_copyFrom_18 : decode cX5_copyFrom 18 = .ok (.getfield 28, 3) := by decide +kernel
theorem dX5_copyFrom_21 : decode cX5_copyFrom 21 = .ok (.putfield 28, 3) := by decide +kernel
theorem dX5_copyFrom_24 : decode cX5_copyFrom 24 = .ok (.aload_n 0, 1) := by decide +kernel
theorem dX5_copyFrom_25 : decode cX5_copyFrom 25 = .ok (.aload_n 1, 1) := by decide +kernel
theorem dX5_copyFrom_26 : decode cX5_copyFrom 26 = .ok (.getfield 32, 3) := by decide +kernel
theorem dX5_copyFrom_29 : decode cX5_copyFrom 29 = .ok (.putfield 32, 3) := by decide +kernel
theorem dX5_copyFrom_32 : decode cX5_copyFrom 32 = .ok (.aload_n 0, 1) := by decide +kernel
theorem dX5_copyFrom_33 : decode cX5_copyFrom 33 = .ok (.getfield 12, 3) := by decide +kernel
theorem dX5_copyFrom_36 : decode cX5_copyFrom 36 = .ok (.aload_n 1, 1) := by decide +kernel
theorem dX5_copyFrom_37 : decode cX5_copyFrom 37 = .ok (.getfield 12, 3) := by decide +kernel
theorem dX5_copyFrom_40 : decode cX5_copyFrom 40 = .ok (.invokevirtual 53, 3) := by decide +kernel
theorem dX5_copyFrom_43 : decode cX5_copyFrom 43 = .ok (.aload_n 0, 1) := by decide +kernel
theorem dX5_copyFrom_44 : decode cX5_copyFrom 44 = .ok (.getfield 18, 3) := by decide +kernel
theorem dX5_copyFrom_47 : decode cX5_copyFrom 47 = .ok (.aload_n 1, 1) := by decide +kernel
theorem dX5_copyFrom_48 : decode cX5_copyFrom 48 = .ok (.getfield 18, 3) := by decide +kernel
theorem dX5_copyFrom_51 : decode cX5_copyFrom 51 = .ok (.invokevirtual 53, 3) := by decide +kernel
theorem dX5_copyFrom_54 : decode cX5_copyFrom 54 = .ok (.aload_n 0, 1) := by decide +kernel
theorem dX5_copyFrom_55 : decode cX5_copyFrom 55 = .ok (.aload_n 1, 1) := by decide +kernel
theorem dX5_copyFrom_56 : decode cX5_copyFrom 56 = .ok (.getfield 38, 3) := by decide +kernel
theorem dX5_copyFrom_59 : decode cX5_copyFrom 59 = .ok (.putfield 38, 3) := by decide +kernel
theorem dX5_copyFrom_62 : decode cX5_copyFrom 62 = .ok (.aload_n 0, 1) := by decide +kernel
theorem dX5_copyFrom_63 : decode cX5_copyFrom 63 = .ok (.aload_n 1, 1) := by decide +kernel
theorem dX5_copyFrom_64 : decode cX5_copyFrom 64 = .ok (.getfield 41, 3) := by decide +kernel
theorem dX5_copyFrom_67 : decode cX5_copyFrom 67 = .ok (.putfield 41, 3) := by decide +kernel
theorem dX5_copyFrom_70 : decode cX5_copyFrom 70 = .ok (.aload_n 0, 1) := by decide +kernel
theorem dX5_copyFrom_71 : decode cX5_copyFrom 71 = .ok (.aload_n 1, 1) := by decide +kernel
theorem dX5_copyFrom_72 : decode cX5_copyFrom 72 = .ok (.getfield 44, 3) := by decide +kernel
theorem dX5_copyFrom_75 : decode cX5_copyFrom 75 = .ok (.putfield 44, 3) := by decide +kernel
theorem dX5_copyFrom_78 : decode cX5_copyFrom 78 = .ok (.aload_n 0, 1) := by decide +kernel
theorem dX5_copyFrom_79 : decode cX5_copyFrom 79 = .ok (.aload_n 1, 1) := by decide +kernel
theorem dX5_copyFrom_80 : decode cX5_copyFrom 80 = .ok (.getfield 47, 3) := by decide +kernel
theorem dX5_copyFrom_83 : decode cX5_copyFrom 83 = .ok (.putfield 47, 3) := by decide +kernel
theorem dX5_copyFrom_86 : decode cX5_copyFrom 86 = .ok (.aload_n 0, 1) := by decide +kernel
theorem dX5_copyFrom_87 : decode cX5_copyFrom 87 = .ok (.aload_n 1, 1) := by decide +kernel
theorem dX5_copyFrom_88 : decode cX5_copyFrom 88 = .ok (.getfield 50, 3) := by decide +kernel
theorem dX5_copyFrom_91 : decode cX5_copyFrom 91 = .ok (.putfield 50, 3) := by decide +kernel
theorem dX5_copyFrom_94 : decode cX5_copyFrom 94 = .ok (.return_, 1) := by decide +kernel
set_option maxRecDepth 20000 in
theorem ggX5_hear_X3_copyFrom : GoodIn wsX5_hear wsX3_copyFrom := goodIn_r _ [9, 10, 11, 12, 13, 14, 26, 27, 28, 29, 30] (by decide +kernel) (by decide +kernel)
set_option maxRecDepth 20000 in
theorem gX5_hear_X3_copyFrom : GoodIn wsX5_hear (wsV RX5 53 RX3 yX3_copyFrom wsX3_copyFrom) := goodIn_app (goodIn_of _ (by decide +kernel)) ggX5_hear_X3_copyFrom
theorem dX5_hear_0 : decode cX5_hear 0 = .ok (.aload_n 0, 1) := by decide +kernel
theorem dX5_hear_1 : decode cX5_hear 1 = .ok (.getfield 21, 3) := by decide +kernel
theorem dX5_hear_4 : decode cX5_hear 4 = .ok (.ifCond .ne 14, 3) := by decide +kernel
theorem dX5_hear_7 : decode cX5_hear 7 = .ok (.aload_n 0, 1) := by decide +kernel
theorem dX5_hear_8 : decode cX5_hear 8 = .ok (.getfield 12, 3) := by decide +kernel
theorem dX5_hear_11 : decode cX5_hear 11 = .ok (.iconst 0, 1) := by decide +kernel
theorem dX5_hear_12 : decode cX5_hear 12 = .ok (.putfield 57, 3) := by decide +kernel
theorem dX5_hear_15 : decode cX5_hear 15 = .ok (.goto 66, 3) := by decide +kernel
theorem dX5_hear_18 : decode cX5_hear 18 = .ok (.aload_n 1, 1) := by decide +kernel
theorem dX5_hear_19 : decode cX5_hear 19 = .ok (.getfield 57, 3) := by decide +kernel
theorem dX5_hear_22 : decode cX5_hear 22 = .ok (.ifCond .eq 19, 3) := by decide +kernel
theorem dX5_hear_25 : decode cX5_hear 25 = .ok (.aload_n 0, 1) := by decide +kernel
theorem dX5_hear_26 : decode cX5_hear 26 = .ok (.getfield 12, 3) := by decide +kernel
theorem dX5_hear_29 : decode cX5_hear 29 = .ok (.aload_n 1, 1) := by decide +kernel
theorem dX5_hear_30 : decode cX5_hear 30 = .ok (.invokevirtual 53, 3) := by decide +kernel
theorem dX5_hear_33 : decode cX5_hear 33 = .ok (.aload_n 0, 1) := by decide +kernel
theorem dX5_hear_34 : decode cX5_hear 34 = .ok (.iconst 0, 1) := by decide +kernel
theorem dX5_hear_35 : decode cX5_hear 35 = .ok (.putfield 38, 3) := by decide +kernel
theorem dX5_hear_38 : decode cX5_hear 38 = .ok (.goto 43, 3) := by decide +kernel
theorem dX5_hear_41 : decode cX5_hear 41 = .ok (.aload_n 0, 1) := by decide +kernel
theorem dX5_hear_42 : decode cX5_hear 42 = .ok (.getfield 12, 3) := by decide +kernel
theorem dX5_hear_45 : decode cX5_hear 45 = .ok (.getfield 57, 3) := by decide +kernel
theorem dX5_hear_48 : decode cX5_hear 48 = .ok (.ifCond .eq 33, 3) := by decide +kernel
theorem dX5_hear_51 : decode cX5_hear 51 = .ok (.aload_n 0, 1) := by decide +kernel
theorem dX5_hear_52 : decode cX5_hear 52 = .ok (.dup, 1) := by decide +kernel
theorem dX5_hear_53 : decode cX5_hear 53 = .ok (.getfield 38, 3) := by decide +kernel
theorem dX5_hear_56 : decode cX5_hear 56 = .ok (.iconst 1, 1) := by decide +kernel
theorem dX5_hear_57 : decode cX5_hear 57 = .ok (.iadd, 1) := by decide +kernel
theorem dX5_hear_58 : decode cX5_hear 58 = .ok (.putfield 38, 3) := by decide +kernel
theorem dX5_hear_61 : decode cX5_hear 61 = .ok (.aload_n 0, 1) := by decide +kernel
theorem dX5_hear_62 : decode cX5_hear 62 = .ok (.getfield 12, 3) := by decide +kernel
theorem dX5_hear_65 : decode cX5_hear 65 = .ok (.aload_n 0, 1) := by decide +kernel
theorem dX5_hear_66 : decode cX5_hear 66 = .ok (.getfield 38, 3) := by decide +kernel
theorem dX5_hear_69 : decode cX5_hear 69 = .ok (.iconst 3, 1) := by decide +kernel
theorem dX5_hear_70 : decode cX5_hear 70 = .ok (.if_icmp .ge 7, 3) := by decide +kernel
theorem dX5_hear_73 : decode cX5_hear 73 = .ok (.iconst 1, 1) := by decide +kernel
theorem dX5_hear_74 : decode cX5_hear 74 = .ok (.goto 4, 3) := by decide +kernel
theorem dX5_hear_77 : decode cX5_hear 77 = .ok (.iconst 0, 1) := by decide +kernel
theorem dX5_hear_78 : decode cX5_hear 78 = .ok (.putfield 57, 3) := by decide +kernel
theorem dX5_hear_81 : decode cX5_hear 81 = .ok (.return_, 1) := by decide +kernel
theorem dX5_priorityBy_0 : decode cX5_priorityBy 0 = .ok (.iload_n 1, 1) := by decide +kernel
theorem dX5_priorityBy_1 : decode cX5_priorityBy 1 = .ok (.ifCond .eq 10, 3) := by decide +kernel
theorem dX5_priorityBy_4 : decode cX5_priorityBy 4 = .ok (.aload_n 0, 1) := by decide +kernel
theorem dX5_priorityBy_5 : decode cX5_priorityBy 5 = .ok (.getfield 32, 3) := by decide +kernel
theorem dX5_priorityBy_8 : decode cX5_priorityBy 8 = .ok (.goto 10, 3) := by decide +kernel
theorem dX5_priorityBy_11 : decode cX5_priorityBy 11 = .ok (.aload_n 0, 1) := by decide +kernel
theorem dX5_priorityBy_12 : decode cX5_priorityBy 12 = .ok (.getfield 12, 3) := by decide +kernel
theorem dX5_priorityBy_15 : decode cX5_priorityBy 15 = .ok (.getfield 60, 3) := by decide +kernel
theorem dX5_priorityBy_18 : decode cX5_priorityBy 18 = .ok (.ireturn, 1) := by decide +kernel
theorem dX5_hasPairOf_0 : decode cX5_hasPairOf 0 = .ok (.aload_n 0, 1) := by decide +kernel
theorem dX5_hasPairOf_1 : decode cX5_hasPairOf 1 = .ok (.getfield 28, 3) := by decide +kernel
theorem dX5_hasPairOf_4 : decode cX5_hasPairOf 4 = .ok (.aload_n 1, 1) := by decide +kernel
theorem dX5_hasPairOf_5 : decode cX5_hasPairOf 5 = .ok (.getfield 28, 3) := by decide +kernel
theorem dX5_hasPairOf_8 : decode cX5_hasPairOf 8 = .ok (.if_icmp .ne 24, 3) := by decide +kernel
theorem dX5_hasPairOf_11 : decode cX5_hasPairOf 11 = .ok (.aload_n 0, 1) := by decide +kernel
theorem dX5_hasPairOf_12 : decode cX5_hasPairOf 12 = .ok (.getfield 12, 3) := by decide +kernel
theorem dX5_hasPairOf_15 : decode cX5_hasPairOf 15 = .ok (.getfield 61, 3) := by decide +kernel
theorem dX5_hasPairOf_18 : decode cX5_hasPairOf 18 = .ok (.aload_n 1, 1) := by decide +kernel
theorem dX5_hasPairOf_19 : decode cX5_hasPairOf 19 = .ok (.getfield 12, 3) := by decide +kernel
theorem dX5_hasPairOf_22 : decode cX5_hasPairOf 22 = .ok (.getfield 61, 3) := by decide +kernel
theorem dX5_hasPairOf_25 : decode cX5_hasPairOf 25 = .ok (.if_icmp .ne 7, 3) := by decide +kernel
theorem dX5_hasPairOf_28 : decode cX5_hasPairOf 28 = .ok (.iconst 1, 1) := by decide +kernel
theorem dX5_hasPairOf_29 : decode cX5_hasPairOf 29 = .ok (.goto 4, 3) := by decide +kernel
theorem dX5_hasPairOf_32 : decode cX5_hasPairOf 32 = .ok (.iconst 0, 1) := by decide +kernel
theorem dX5_hasPairOf_33 : decode cX5_hasPairOf 33 = .ok (.ireturn, 1) := by decide +kernel
set_option maxRecDepth 20000 in
theorem ggX5_judge_X5_howNow : GoodIn wsX5_judge wsX5_howNow := goodIn_r _ [9, 10, 11, 12, 1, 2, 13, 14, 15, 16, 17, 18, 19, 20, 21, 22, 23, 24, 25, 26, 27, 28, 29] (by decide +kernel) (by decide +kernel)
set_option maxRecDepth 20000 in
theorem gX5_judge_X5_howNow : GoodIn wsX5_judge (wsV RX5 62 RX5 yX5_howNow wsX5_howNow) := goodIn_app (goodIn_of _ (by decide +kernel)) ggX5_judge_X5_howNow
theorem dX5_judge_0 : decode cX5_judge 0 = .ok (.aload_n 0, 1) := by decide +kernel
theorem dX5_judge_1 : decode cX5_judge 1 = .ok (.aload_n 0, 1) := by decide +kernel
theorem dX5_judge_2 : decode cX5_judge 2 = .ok (.getfield 44, 3) := by decide +kernel
theorem dX5_judge_5 : decode cX5_judge 5 = .ok (.ifCond .eq 12, 3) := by decide +kernel
theorem dX5_judge_8 : decode cX5_judge 8 = .ok (.aload_n 0, 1) := by decide +kernel
theorem dX5_judge_9 : decode cX5_judge 9 = .ok (.getfield 47, 3) := by decide +kernel
theorem dX5_judge_12 : decode cX5_judge 12 = .ok (.iconst 1, 1) := by decide +kernel
theorem dX5_judge_13 : decode cX5_judge 13 = .ok (.iadd, 1) := by decide +kernel
theorem dX5_judge_14 : decode cX5_judge 14 = .ok (.goto 4, 3) := by decide +kernel
theorem dX5_judge_17 : decode cX5_judge 17 = .ok (.iconst (-1), 1) := by decide +kernel
theorem dX5_judge_18 : decode cX5_judge 18 = .ok (.putfield 47, 3) := by decide +kernel
theorem dX5_judge_21 : decode cX5_judge 21 = .ok (.aload_n 0, 1) := by decide +kernel
theorem dX5_judge_22 : decode cX5_judge 22 = .ok (.getfield 41, 3) := by decide +kernel
theorem dX5_judge_25 : decode cX5_judge 25 = .ok (.istore_n 2, 1) := by decide +kernel
theorem dX5_judge_26 : decode cX5_judge 26 = .ok (.aload_n 0, 1) := by decide +kernel
theorem dX5_judge_27 : decode cX5_judge 27 = .ok (.aload_n 0, 1) := by decide +kernel
theorem dX5_judge_28 : decode cX5_judge 28 = .ok (.iload_n 1, 1) := by decide +kernel
theorem dX5_judge_29 : decode cX5_judge 29 = .ok (.invokevirtual 62, 3) := by decide +kernel
theorem dX5_judge_32 : decode cX5_judge 32 = .ok (.putfield 41, 3) := by decide +kernel
theorem dX5_judge_35 : decode cX5_judge 35 = .ok (.aload_n 0, 1) := by decide +kernel
theorem dX5_judge_36 : decode cX5_judge 36 = .ok (.getfield 41, 3) := by decide +kernel
theorem dX5_judge_39 : decode cX5_judge 39 = .ok (.iconst 5, 1) := by decide +kernel
theorem dX5_judge_40 : decode cX5_judge 40 = .ok (.if_icmp .ne 18, 3) := by decide +kernel
theorem dX5_judge_43 : decode cX5_judge 43 = .ok (.iload_n 2, 1) := by decide +kernel
theorem dX5_judge_44 : decode cX5_judge 44 = .ok (.iconst 5, 1) := by decide +kernel
theorem dX5_judge_45 : decode cX5_judge 45 = .ok (.if_icmp .eq 13, 3) := by decide +kernel
theorem dX5_judge_48 : decode cX5_judge 48 = .ok (.aload_n 0, 1) := by decide +kernel
theorem dX5_judge_49 : decode cX5_judge 49 = .ok (.dup, 1) := by decide +kernel
theorem dX5_judge_50 : decode cX5_judge 50 = .ok (.getfield 50, 3) := by decide +kernel
theorem dX5_judge_53 : decode cX5_judge 53 = .ok (.iconst 1, 1) := by decide +kernel
theorem dX5_judge_54 : decode cX5_judge 54 = .ok (.iadd, 1) := by decide +kernel
theorem dX5_judge_55 : decode cX5_judge 55 = .ok (.putfield 50, 3) := by decide +kernel
theorem dX5_judge_58 : decode cX5_judge 58 = .ok (.return_, 1) := by decide +kernel
theorem dX5_howNow_0 : decode cX5_howNow 0 = .ok (.aload_n 0, 1) := by decide +kernel
theorem dX5_howNow_1 : decode cX5_howNow 1 = .ok (.getfield 21, 3) := by decide +kernel
theorem dX5_howNow_4 : decode cX5_howNow 4 = .ok (.ifCond .ne 5, 3) := by decide +kernel
theorem dX5_howNow_7 : decode cX5_howNow 7 = .ok (.iconst 0, 1) := by decide +kernel
theorem dX5_howNow_8 : decode cX5_howNow 8 = .ok (.ireturn, 1) := by decide +kernel
theorem dX5_howNow_9 : decode cX5_howNow 9 = .ok (.aload_n 0, 1) := by decide +kernel
theorem dX5_howNow_10 : decode cX5_howNow 10 = .ok (.getfield 12, 3) := by decide +kernel
theorem dX5_howNow_13 : decode cX5_howNow 13 = .ok (.getfield 57, 3) := by decide +kernel
theorem dX5_howNow_16 : decode cX5_howNow 16 = .ok (.ifCond .ne 5, 3) := by decide +kernel
theorem dX5_howNow_19 : decode cX5_howNow 19 = .ok (.iconst 1, 1) := by decide +kernel
theorem dX5_howNow_20 : decode cX5_howNow 20 = .ok (.ireturn, 1) := by decide +kernel
theorem dX5_howNow_21 : decode cX5_howNow 21 = .ok (.aload_n 0, 1) := by decide +kernel
theorem dX5_howNow_22 : decode cX5_howNow 22 = .ok (.getfield 44, 3) := by decide +kernel
theorem dX5_howNow_25 : decode cX5_howNow 25 = .ok (.ifCond .ne 5, 3) := by decide +kernel
theorem dX5_howNow_28 : decode cX5_howNow 28 = .ok (.iconst 2, 1) := by decide +kernel
theorem dX5_howNow_29 : decode cX5_howNow 29 = .ok (.ireturn, 1) := by decide +kernel
theorem dX5_howNow_30 : decode cX5_howNow 30 = .ok (.aload_n 0, 1) := by decide +kernel
theorem dX5_howNow_31 : decode cX5_howNow 31 = .ok (.getfield 47, 3) := by decide +kernel
theorem dX5_howNow_34 : decode cX5_howNow 34 = .ok (.iload_n 1, 1) := by decide +kernel
theorem dX5_howNow_35 : decode cX5_howNow 35 = .ok (.if_icmp .ge 5, 3) := by decide +kernel
theorem dX5_howNow_38 : decode cX5_howNow 38 = .ok (.iconst 3, 1) := by decide +kernel
theorem dX5_howNow_39 : decode cX5_howNow 39 = .ok (.ireturn, 1) := by decide +kernel
theorem dX5_howNow_40 : decode cX5_howNow 40 = .ok (.aload_n 0, 1) := by decide +kernel
theorem dX5_howNow_41 : decode cX5_howNow 41 = .ok (.getfield 12, 3) := by decide +kernel
theorem dX5_howNow_44 : decode cX5_howNow 44 = .ok (.getfield 66, 3) := by decide +kernel
theorem dX5_howNow_47 : decode cX5_howNow 47 = .ok (.ifCond .eq 7, 3) := by decide +kernel
theorem dX5_howNow_50 : decode cX5_howNow 50 = .ok (.iconst 5, 1) := by decide +kernel
theorem dX5_howNow_51 : decode cX5_howNow 51 = .ok (.goto 4, 3) := by decide +kernel
theorem dX5_howNow_54 : decode cX5_howNow 54 = .ok (.iconst 4, 1) := by decide +kernel
theorem dX5_howNow_55 : decode cX5_howNow 55 = .ok (.ireturn, 1) := by decide +kernel
theorem dX5_say_0 : decode cX5_say 0 = .ok (.aload_n 0, 1) := by decide +kernel
theorem dX5_say_1 : decode cX5_say 1 = .ok (.getfield 18, 3) := by decide +kernel
theorem dX5_say_4 : decode cX5_say 4 = .ok (.aload_n 0, 1) := by decide +kernel
theorem dX5_say_5 : decode cX5_say 5 = .ok (.getfield 21, 3) := by decide +kernel
theorem dX5_say_8 : decode cX5_say 8 = .ok (.ifCond .eq 14, 3) := by decide +kernel
theorem dX5_say_11 : decode cX5_say 11 = .ok (.aload_n 0, 1) := by decide +kernel
theorem dX5_say_12 : decode cX5_say 12 = .ok (.getfield 25, 3) := by decide +kernel
theorem dX5_say_15 : decode cX5_say 15 = .ok (.ifCond .ne 7, 3) := by decide +kernel
theorem dX5_say_18 : decode cX5_say 18 = .ok (.iconst 1, 1) := by decide +kernel
theorem dX5_say_19 : decode cX5_say 19 = .ok (.goto 4, 3) := by decide +kernel
theorem dX5_say_22 : decode cX5_say 22 = .ok (.iconst 0, 1) := by decide +kernel
theorem dX5_say_23 : decode cX5_say 23 = .ok (.putfield 57, 3) := by decide +kernel
theorem dX5_say_26 : decode cX5_say 26 = .ok (.aload_n 0, 1) := by decide +kernel
theorem dX5_say_27 : decode cX5_say 27 = .ok (.getfield 18, 3) := by decide +kernel
theorem dX5_say_30 : decode cX5_say 30 = .ok (.aload_n 0, 1) := by decide +kernel
theorem dX5_say_31 : decode cX5_say 31 = .ok (.getfield 28, 3) := by decide +kernel
theorem dX5_say_34 : decode cX5_say 34 = .ok (.putfield 61, 3) := by decide +kernel
theorem dX5_say_37 : decode cX5_say 37 = .ok (.aload_n 0, 1) := by decide +kernel
theorem dX5_say_38 : decode cX5_say 38 = .ok (.getfield 18, 3) := by decide +kernel
theorem dX5_say_41 : decode cX5_say 41 = .ok (.aload_n 0, 1) := by decide +kernel
theorem dX5_say_42 : decode cX5_say 42 = .ok (.getfield 32, 3) := by decide +kernel
theorem dX5_say_45 : decode cX5_say 45 = .ok (.putfield 60, 3) := by decide +kernel
theorem dX5_say_48 : decode cX5_say 48 = .ok (.aload_n 0, 1) := by decide +kernel
theorem dX5_say_49 : decode cX5_say 49 = .ok (.getfield 18, 3) := by decide +kernel
theorem dX5_say_52 : decode cX5_say 52 = .ok (.iload_n 1, 1) := by decide +kernel
theorem dX5_say_53 : decode cX5_say 53 = .ok (.putfield 69, 3) := by decide +kernel
theorem dX5_say_56 : decode cX5_say 56 = .ok (.aload_n 0, 1) := by decide +kernel
theorem dX5_say_57 : decode cX5_say 57 = .ok (.getfield 18, 3) := by decide +kernel
theorem dX5_say_60 : decode cX5_say 60 = .ok (.aload_n 0, 1) := by decide +kernel
theorem dX5_say_61 : decode cX5_say 61 = .ok (.getfield 41, 3) := by decide +kernel
theorem dX5_say_64 : decode cX5_say 64 = .ok (.iconst 4, 1) := by decide +kernel
theorem dX5_say_65 : decode cX5_say 65 = .ok (.if_icmp .eq 11, 3) := by decide +kernel
theorem dX5_say_68 : decode cX5_say 68 = .ok (.aload_n 0, 1) := by decide +kernel
theorem dX5_say_69 : decode cX5_say 69 = .ok (.getfield 41, 3) := by decide +kernel
theorem dX5_say_72 : decode cX5_say 72 = .ok (.iconst 5, 1) := by decide +kernel
theorem dX5_say_73 : decode cX5_say 73 = .ok (.if_icmp .ne 7, 3) := by decide +kernel
theorem dX5_say_76 : decode cX5_say 76 = .ok (.iconst 1, 1) := by decide +kernel
theorem dX5_say_77 : decode cX5_say 77 = .ok (.goto 4, 3) := by decide +kernel
theorem dX5_say_80 : decode cX5_say 80 = .ok (.iconst 0, 1) := by decide +kernel
theorem dX5_say_81 : decode cX5_say 81 = .ok (.putfield 66, 3) := by decide +kernel
theorem dX5_say_84 : decode cX5_say 84 = .ok (.return_, 1) := by decide +kernel
set_option maxRecDepth 20000 in
theorem ggX5_look_X5_known : GoodIn wsX5_look wsX5_known := goodIn_r _ [18, 5, 19, 20, 21, 22, 23, 24, 25, 26, 27, 28, 29, 30, 31, 32, 33, 34, 35] (by decide +kernel) (by decide +kernel)
set_option maxRecDepth 20000 in
theorem gX5_look_X5_known : GoodIn wsX5_look (wsV RX5 72 RX5 yX5_known wsX5_known) := goodIn_app (goodIn_of _ (by decide +kernel)) ggX5_look_X5_known
theorem dX5_look_0 : decode cX5_look 0 = .ok (.iload_n 1, 1) := by decide +kernel
theorem dX5_look_1 : decode cX5_look 1 = .ok (.tableswitch 174 0 10 #[59, 64, 69, 74, 83, 95, 107, 119, 139, 156, 161], 59) := by decide +kernel
theorem dX5_look_60 : decode cX5_look 60 = .ok (.aload_n 0, 1) := by decide +kernel
theorem dX5_look_61 : decode cX5_look 61 = .ok (.getfield 28, 3) := by decide +kernel
theorem dX5_look_64 : decode cX5_look 64 = .ok (.ireturn, 1) := by decide +kernel
theorem dX5_look_65 : decode cX5_look 65 = .ok (.aload_n 0, 1) := by decide +kernel
theorem dX5_look_66 : decode cX5_look 66 = .ok (.getfield 32, 3) := by decide +kernel
theorem dX5_look_69 : decode cX5_look 69 = .ok (.ireturn, 1) := by decide +kernel
theorem dX5_look_70 : decode cX5_look 70 = .ok (.aload_n 0, 1) := by decide +kernel
theorem dX5_look_71 : decode cX5_look 71 = .ok (.getfield 41, 3) := by decide +kernel
theorem dX5_look_74 : decode cX5_look 74 = .ok (.ireturn, 1) := by decide +kernel
theorem dX5_look_75 : decode cX5_look 75 = .ok (.aload_n 0, 1) := by decide +kernel
theorem dX5_look_76 : decode cX5_look 76 = .ok (.aload_n 0, 1) := by decide +kernel
theorem dX5_look_77 : decode cX5_look 77 = .ok (.getfield 38, 3) := by decide +kernel
theorem dX5_look_80 : decode cX5_look 80 = .ok (.invokevirtual 72, 3) := by decide +kernel
theorem dX5_look_83 : decode cX5_look 83 = .ok (.ireturn, 1) := by decide +kernel
theorem dX5_look_84 : decode cX5_look 84 = .ok (.aload_n 0, 1) := by decide +kernel
theorem dX5_look_85 : decode cX5_look 85 = .ok (.aload_n 0, 1) := by decide +kernel
theorem dX5_look_86 : decode cX5_look 86 = .ok (.getfield 12, 3) := by decide +kernel
theorem dX5_look_89 : decode cX5_look 89 = .ok (.getfield 61, 3) := by decide +kernel
theorem dX5_look_92 : decode cX5_look 92 = .ok (.invokevirtual 72, 3) := by decide +kernel
theorem dX5_look_95 : decode cX5_look 95 = .ok (.ireturn, 1) := by decide +kernel
theorem dX5_look_96 : decode cX5_look 96 = .ok (.aload_n 0, 1) := by decide +kernel
theorem dX5_look_97 : decode cX5_look 97 = .ok (.aload_n 0, 1) := by decide +kernel
theorem dX5_look_98 : decode cX5_look 98 = .ok (.getfield 12, 3) := by decide +kernel
theorem dX5_look_101 : decode cX5_look 101 = .ok (.getfield 60, 3) := by decide +kernel
theorem dX5_look_104 : decode cX5_look 104 = .ok (.invokevirtual 72, 3) := by decide +kernel
theorem dX5_look_107 : decode cX5_look 107 = .ok (.ireturn, 1) := by decide +kernel
theorem dX5_look_108 : decode cX5_look 108 = .ok (.aload_n 0, 1) := by decide +kernel
theorem dX5_look_109 : decode cX5_look 109 = .ok (.aload_n 0, 1) := by decide +kernel
theorem dX5_look_110 : decode cX5_look 110 = .ok (.getfield 12, 3) := by decide +kernel
theorem dX5_look_113 : decode cX5_look 113 = .ok (.getfield 69, 3) := by decide +kernel
theorem dX5_look_116 : decode cX5_look 116 = .ok (.invokevirtual 72, 3) := by decide +kernel
theorem dX5_look_119 : decode cX5_look 119 = .ok (.ireturn, 1) := by decide +kernel
theorem dX5_look_120 : decode cX5_look 120 = .ok (.aload_n 0, 1) := by decide +kernel
theorem dX5_look_121 : decode cX5_look 121 = .ok (.aload_n 0, 1) := by decide +kernel
theorem dX5_look_122 : decode cX5_look 122 = .ok (.getfield 12, 3) := by decide +kernel
theorem dX5_look_125 : decode cX5_look 125 = .ok (.getfield 66, 3) := by decide +kernel
theorem dX5_look_128 : decode cX5_look 128 = .ok (.ifCond .eq 7, 3) := by decide +kernel
theorem dX5_look_131 : decode cX5_look 131 = .ok (.iconst 1, 1) := by decide +kernel
theorem dX5_look_132 : decode cX5_look 132 = .ok (.goto 4, 3) := by decide +kernel
theorem dX5_look_135 : decode cX5_look 135 = .ok (.iconst 0, 1) := by decide +kernel
theorem dX5_look_136 : decode cX5_look 136 = .ok (.invokevirtual 72, 3) := by decide +kernel
theorem dX5_look_139 : decode cX5_look 139 = .ok (.ireturn, 1) := by decide +kernel
theorem dX5_look_140 : decode cX5_look 140 = .ok (.aload_n 0, 1) := by decide +kernel
theorem dX5_look_141 : decode cX5_look 141 = .ok (.getfield 44, 3) := by decide +kernel
theorem dX5_look_144 : decode cX5_look 144 = .ok (.ifCond .eq 10, 3) := by decide +kernel
theorem dX5_look_147 : decode cX5_look 147 = .ok (.aload_n 0, 1) := by decide +kernel
theorem dX5_look_148 : decode cX5_look 148 = .ok (.getfield 47, 3) := by decide +kernel
theorem dX5_look_151 : decode cX5_look 151 = .ok (.goto 5, 3) := by decide +kernel
theorem dX5_look_154 : decode cX5_look 154 = .ok (.bipush (-4), 2) := by decide +kernel
theorem dX5_look_156 : decode cX5_look 156 = .ok (.ireturn, 1) := by decide +kernel
theorem dX5_look_157 : decode cX5_look 157 = .ok (.aload_n 0, 1) := by decide +kernel
theorem dX5_look_158 : decode cX5_look 158 = .ok (.getfield 50, 3) := by decide +kernel
theorem dX5_look_161 : decode cX5_look 161 = .ok (.ireturn, 1) := by decide +kernel
theorem dX5_look_162 : decode cX5_look 162 = .ok (.aload_n 0, 1) := by decide +kernel
theorem dX5_look_163 : decode cX5_look 163 = .ok (.getfield 25, 3) := by decide +kernel
theorem dX5_look_166 : decode cX5_look 166 = .ok (.ifCond .eq 7, 3) := by decide +kernel
theorem dX5_look_169 : decode cX5_look 169 = .ok (.iconst 1, 1) := by decide +kernel
theorem dX5_look_170 : decode cX5_look 170 = .ok (.goto 4, 3) := by decide +kernel
theorem dX5_look_173 : decode cX5_look 173 = .ok (.iconst 0, 1) := by decide +kernel
theorem dX5_look_174 : decode cX5_look 174 = .ok (.ireturn, 1) := by decide +kernel
theorem dX5_look_175 : decode cX5_look 175 = .ok (.iconst (-1), 1) := by decide +kernel
theorem dX5_look_176 : decode cX5_look 176 = .ok (.ireturn, 1) := by decide +kernel
theorem dX5_known_0 : decode cX5_known 0 = .ok (.aload_n 0, 1) := by decide +kernel
theorem dX5_known_1 : decode cX5_known 1 = .ok (.getfield 12, 3) := by decide +kernel
theorem dX5_known_4 : decode cX5_known 4 = .ok (.getfield 57, 3) := by decide +kernel
theorem dX5_known_7 : decode cX5_known 7 = .ok (.ifCond .eq 7, 3) := by decide +kernel
theorem dX5_known_10 : decode cX5_known 10 = .ok (.iload_n 1, 1) := by decide +kernel
theorem dX5_known_11 : decode cX5_known 11 = .ok (.goto 5, 3) := by decide +kernel
theorem dX5_known_14 : decode cX5_known 14 = .ok (.bipush (-4), 2) := by decide +kernel
theorem dX5_known_16 : decode cX5_known 16 = .ok (.ireturn, 1) := by decide +kernel
theorem dX5_isOf_0 : decode cX5_isOf 0 = .ok (.iload_n 1, 1) := by decide +kernel
theorem dX5_isOf_1 : decode cX5_isOf 1 = .ok (.lookupswitch 40 #[(0, 27), (1, 35)], 27) := by decide +kernel
theorem dX5_isOf_28 : decode cX5_isOf 28 = .ok (.aload_n 0, 1) := by decide +kernel
theorem dX5_isOf_29 : decode cX5_isOf 29 = .ok (.getfield 12, 3) := by decide +kernel
theorem dX5_isOf_32 : decode cX5_isOf 32 = .ok (.getfield 57, 3) := by decide +kernel
theorem dX5_isOf_35 : decode cX5_isOf 35 = .ok (.ireturn, 1) := by decide +kernel
theorem dX5_isOf_36 : decode cX5_isOf 36 = .ok (.aload_n 0, 1) := by decide +kernel
theorem dX5_isOf_37 : decode cX5_isOf 37 = .ok (.getfield 44, 3) := by decide +kernel
theorem dX5_isOf_40 : decode cX5_isOf 40 = .ok (.ireturn, 1) := by decide +kernel
theorem dX5_isOf_41 : decode cX5_isOf 41 = .ok (.aload_n 0, 1) := by decide +kernel
theorem dX5_isOf_42 : decode cX5_isOf 42 = .ok (.getfield 41, 3) := by decide +kernel
theorem dX5_isOf_45 : decode cX5_isOf 45 = .ok (.iconst 5, 1) := by decide +kernel
theorem dX5_isOf_46 : decode cX5_isOf 46 = .ok (.if_icmp .ne 7, 3) := by decide +kernel
theorem dX5_isOf_49 : decode cX5_isOf 49 = .ok (.iconst 1, 1) := by decide +kernel
theorem dX5_isOf_50 : decode cX5_isOf 50 = .ok (.goto 4, 3) := by decide +kernel
theorem dX5_isOf_53 : decode cX5_isOf 53 = .ok (.iconst 0, 1) := by decide +kernel
theorem dX5_isOf_54 : decode cX5_isOf 54 = .ok (.ireturn, 1) := by decide +kernel
theorem dX6_init_0 : decode cX6_init 0 = .ok (.aload_n 0, 1) := by decide +kernel
theorem dX6_init_1 : decode cX6_init 1 = .ok (.invokespecial 3, 3) := by decide +kernel
theorem dX6_init_4 : decode cX6_init 4 = .ok (.aload_n 0, 1) := by decide +kernel
theorem dX6_init_5 : decode cX6_init 5 = .ok (.sipush 200, 3) := by decide +kernel
theorem dX6_init_8 : decode cX6_init 8 = .ok (.newarray .int, 2) := by decide +kernel
theorem dX6_init_10 : decode cX6_init 10 = .ok (.putfield 9, 3) := by decide +kernel
theorem dX6_init_13 : decode cX6_init 13 = .ok (.return_, 1) := by decide +kernel
theorem dX6_add_0 : decode cX6_add 0 = .ok (.aload_n 0, 1) := by decide +kernel
theorem dX6_add_1 : decode cX6_add 1 = .ok (.getfield 15, 3) := by decide +kernel
theorem dX6_add_4 : decode cX6_add 4 = .ok (.ifCond .lt 15, 3) := by decide +kernel
theorem dX6_add_7 : decode cX6_add 7 = .ok (.aload_n 0, 1) := by decide +kernel
theorem dX6_add_8 : decode cX6_add 8 = .ok (.getfield 15, 3) := by decide +kernel
theorem dX6_add_11 : decode cX6_add 11 = .ok (.aload_n 0, 1) := by decide +kernel
theorem dX6_add_12 : decode cX6_add 12 = .ok (.getfield 9, 3) := by decide +kernel
theorem dX6_add_15 : decode cX6_add 15 = .ok (.arraylength, 1) := by decide +kernel
theorem dX6_add_16 : decode cX6_add 16 = .ok (.if_icmp .lt 5, 3) := by decide +kernel
theorem dX6_add_19 : decode cX6_add 19 = .ok (.iconst 0, 1) := by decide +kernel
theorem dX6_add_20 : decode cX6_add 20 = .ok (.ireturn, 1) := by decide +kernel
theorem dX6_add_21 : decode cX6_add 21 = .ok (.aload_n 0, 1) := by decide +kernel
theorem dX6_add_22 : decode cX6_add 22 = .ok (.getfield 9, 3) := by decide +kernel
theorem dX6_add_25 : decode cX6_add 25 = .ok (.aload_n 0, 1) := by decide +kernel
theorem dX6_add_26 : decode cX6_add 26 = .ok (.getfield 15, 3) := by decide +kernel
theorem dX6_add_29 : decode cX6_add 29 = .ok (.iload_n 1, 1) := by decide +kernel
theorem dX6_add_30 : decode cX6_add 30 = .ok (.iastore, 1) := by decide +kernel
theorem dX6_add_31 : decode cX6_add 31 = .ok (.aload_n 0, 1) := by decide +kernel
theorem dX6_add_32 : decode cX6_add 32 = .ok (.dup, 1) := by decide +kernel
theorem dX6_add_33 : decode cX6_add 33 = .ok (.getfield 15, 3) := by decide +kernel
theorem dX6_add_36 : decode cX6_add 36 = .ok (.iconst 1, 1) := by decide +kernel
theorem dX6_add_37 : decode cX6_add 37 = .ok (.iadd, 1) := by decide +kernel
theorem dX6_add_38 : decode cX6_add 38 = .ok (.putfield 15, 3) := by decide +kernel
theorem dX6_add_41 : decode cX6_add 41 = .ok (.iconst 1, 1) := by decide +kernel
theorem dX6_add_42 : decode cX6_add 42 = .ok (.ireturn, 1) := by decide +kernel
theorem dX6_clear_0 : decode cX6_clear 0 = .ok (.aload_n 0, 1) := by decide +kernel
theorem dX6_clear_1 : decode cX6_clear 1 = .ok (.iconst 0, 1) := by decide +kernel
theorem dX6_clear_2 : decode cX6_clear 2 = .ok (.putfield 15, 3) := by decide +kernel
theorem dX6_clear_5 : decode cX6_clear 5 = .ok (.return_, 1) := by decide +kernel
theorem dX6_letterAt_0 : decode cX6_letterAt 0 = .ok (.iload_n 1, 1) := by decide +kernel
theorem dX6_letterAt_1 : decode cX6_letterAt 1 = .ok (.ifCond .lt 29, 3) := by decide +kernel
theorem dX6_letterAt_4 : decode cX6_letterAt 4 = .ok (.iload_n 1, 1) := by decide +kernel
theorem dX6_letterAt_5 : decode cX6_letterAt 5 = .ok (.aload_n 0, 1) := by decide +kernel
theorem dX6_letterAt_6 : decode cX6_letterAt 6 = .ok (.getfield 15, 3) := by decide +kernel
theorem dX6_letterAt_9 : decode cX6_letterAt 9 = .ok (.if_icmp .ge 21, 3) := by decide +kernel
theorem dX6_letterAt_12 : decode cX6_letterAt 12 = .ok (.iload_n 1, 1) := by decide +kernel
theorem dX6_letterAt_13 : decode cX6_letterAt 13 = .ok (.aload_n 0, 1) := by decide +kernel
theorem dX6_letterAt_14 : decode cX6_letterAt 14 = .ok (.getfield 9, 3) := by decide +kernel
theorem dX6_letterAt_17 : decode cX6_letterAt 17 = .ok (.arraylength, 1) := by decide +kernel
theorem dX6_letterAt_18 : decode cX6_letterAt 18 = .ok (.if_icmp .ge 12, 3) := by decide +kernel
theorem dX6_letterAt_21 : decode cX6_letterAt 21 = .ok (.aload_n 0, 1) := by decide +kernel
theorem dX6_letterAt_22 : decode cX6_letterAt 22 = .ok (.getfield 9, 3) := by decide +kernel
theorem dX6_letterAt_25 : decode cX6_letterAt 25 = .ok (.iload_n 1, 1) := by decide +kernel
theorem dX6_letterAt_26 : decode cX6_letterAt 26 = .ok (.iaload, 1) := by decide +kernel
theorem dX6_letterAt_27 : decode cX6_letterAt 27 = .ok (.goto 4, 3) := by decide +kernel
theorem dX6_letterAt_30 : decode cX6_letterAt 30 = .ok (.iconst 0, 1) := by decide +kernel
theorem dX6_letterAt_31 : decode cX6_letterAt 31 = .ok (.ireturn, 1) := by decide +kernel
set_option maxRecDepth 20000 in
theorem ggX6_firstFault_X6_letterAt : GoodIn wsX6_firstFault wsX6_letterAt := goodIn_r _ [6, 1, 7, 29, 30] (by decide +kernel) (by decide +kernel)
set_option maxRecDepth 20000 in
theorem gX6_firstFault_X6_letterAt : GoodIn wsX6_firstFault (wsV RX6 19 RX6 yX6_letterAt wsX6_letterAt) := goodIn_app (goodIn_of _ (by decide +kernel)) ggX6_firstFault_X6_letterAt
set_option maxRecDepth 20000 in
theorem ggX6_firstFault_X6_isItem : GoodIn wsX6_firstFault wsX6_isItem := goodIn_r _ [11, 12, 13, 14, 5, 15, 2, 3, 4, 6, 1, 7, 16, 17, 18, 19, 20, 21, 22, 23, 24, 29, 30] (by decide +kernel) (by decide +kernel)
set_option maxRecDepth 20000 in
theorem gX6_firstFault_X6_isItem : GoodIn wsX6_firstFault (wsV RX6 23 RX6 yX6_isItem wsX6_isItem) := goodIn_app (goodIn_of _ (by decide +kernel)) ggX6_firstFault_X6_isItem
set_option maxRecDepth 20000 in
theorem ggX6_firstFault_X6_lengthOfItem : GoodIn wsX6_firstFault wsX6_lengthOfItem := goodIn_r _ [28, 12, 13, 14, 5, 15, 2, 3, 4, 6, 1, 7, 29, 30] (by decide +kernel) (by decide +kernel)
set_option maxRecDepth 20000 in
theorem gX6_firstFault_X6_lengthOfItem : GoodIn wsX6_firstFault (wsV RX6 27 RX6 yX6_lengthOfItem wsX6_lengthOfItem) := goodIn_app (goodIn_of _ (by decide +kernel)) ggX6_firstFault_X6_lengthOfItem
theorem dX6_firstFault_0 : decode cX6_firstFault 0 = .ok (.iconst 0, 1) := by decide +kernel
theorem dX6_firstFault_1 : decode cX6_firstFault 1 = .ok (.istore_n 1, 1) := by decide +kernel
theorem dX6_firstFault_2 : decode cX6_firstFault 2 = .ok (.iconst 0, 1) := by decide +kernel
theorem dX6_firstFault_3 : decode cX6_firstFault 3 = .ok (.istore_n 2, 1) := by decide +kernel
theorem dX6_firstFault_4 : decode cX6_firstFault 4 = .ok (.iconst 0, 1) := by decide +kernel
theorem dX6_firstFault_5 : decode cX6_firstFault 5 = .ok (.istore_n 3, 1) := by decide +kernel
theorem dX6_firstFault_6 : decode cX6_firstFault 6 = .ok (.iload_n 3, 1) := by decide +kernel
theorem dX6_firstFault_7 : decode cX6_firstFault 7 = .ok (.sipush 200, 3) := by decide +kernel
theorem dX6_firstFault_10 : decode cX6_firstFault 10 = .ok (.if_icmp .ge 54, 3) := by decide +kernel
theorem dX6_firstFault_13 : decode cX6_firstFault 13 = .ok (.iload_n 2, 1) := by decide +kernel
theorem dX6_firstFault_14 : decode cX6_firstFault 14 = .ok (.aload_n 0, 1) := by decide +kernel
theorem dX6_firstFault_15 : decode cX6_firstFault 15 = .ok (.getfield 15, 3) := by decide +kernel
theorem dX6_firstFault_18 : decode cX6_firstFault 18 = .ok (.if_icmp .ge 46, 3) := by decide +kernel
theorem dX6_firstFault_21 : decode cX6_firstFault 21 = .ok (.aload_n 0, 1) := by decide +kernel
theorem dX6_firstFault_22 : decode cX6_firstFault 22 = .ok (.iload_n 2, 1) := by decide +kernel
theorem dX6_firstFault_23 : decode cX6_firstFault 23 = .ok (.invokevirtual 19, 3) := by decide +kernel
theorem dX6_firstFault_26 : decode cX6_firstFault 26 = .ok (.bipush 108, 2) := by decide +kernel
theorem dX6_firstFault_28 : decode cX6_firstFault 28 = .ok (.if_icmp .ne 6, 3) := by decide +kernel
theorem dX6_firstFault_31 : decode cX6_firstFault 31 = .ok (.iinc 1 1, 3) := by decide +kernel
theorem dX6_firstFault_34 : decode cX6_firstFault 34 = .ok (.aload_n 0, 1) := by decide +kernel
theorem dX6_firstFault_35 : decode cX6_firstFault 35 = .ok (.iload_n 2, 1) := by decide +kernel
theorem dX6_firstFault_36 : decode cX6_firstFault 36 = .ok (.invokevirtual 23, 3) := by decide +kernel
theorem dX6_firstFault_39 : decode cX6_firstFault 39 = .ok (.ifCond .eq 9, 3) := by decide +kernel
theorem dX6_firstFault_42 : decode cX6_firstFault 42 = .ok (.iload_n 1, 1) := by decide +kernel
theorem dX6_firstFault_43 : decode cX6_firstFault 43 = .ok (.bipush 6, 2) := by decide +kernel
theorem dX6_firstFault_45 : decode cX6_firstFault 45 = .ok (.if_icmp .le 5, 3) := by decide +kernel
theorem dX6_firstFault_48 : decode cX6_firstFault 48 = .ok (.iload_n 2, 1) := by decide +kernel
theorem dX6_firstFault_49 : decode cX6_firstFault 49 = .ok (.ireturn, 1) := by decide +kernel
theorem dX6_firstFault_50 : decode cX6_firstFault 50 = .ok (.iload_n 2, 1) := by decide +kernel
theorem dX6_firstFault_51 : decode cX6_firstFault 51 = .ok (.aload_n 0, 1) := by decide +kernel
theorem dX6_firstFault_52 : decode cX6_firstFault 52 = .ok (.iload_n 2, 1) := by decide +kernel
theorem dX6_firstFault_53 : decode cX6_firstFault 53 = .ok (.invokevirtual 27, 3) := by decide +kernel
theorem dX6_firstFault_56 : decode cX6_firstFault 56 = .ok (.iadd, 1) := by decide +kernel
theorem dX6_firstFault_57 : decode cX6_firstFault 57 = .ok (.istore_n 2, 1) := by decide +kernel
theorem dX6_firstFault_58 : decode cX6_firstFault 58 = .ok (.iinc 3 1, 3) := by decide +kernel
theorem dX6_firstFault_61 : decode cX6_firstFault 61 = .ok (.goto (-55), 3) := by decide +kernel
theorem dX6_firstFault_64 : decode cX6_firstFault 64 = .ok (.bipush (-4), 2) := by decide +kernel
theorem dX6_firstFault_66 : decode cX6_firstFault 66 = .ok (.ireturn, 1) := by decide +kernel
set_option maxRecDepth 20000 in
theorem ggX6_tellsLink_X6_letterAt : GoodIn wsX6_tellsLink wsX6_letterAt := goodIn_r _ [6, 1, 7, 8, 9] (by decide +kernel) (by decide +kernel)
set_option maxRecDepth 20000 in
theorem gX6_tellsLink_X6_letterAt : GoodIn wsX6_tellsLink (wsV RX6 19 RX6 yX6_letterAt wsX6_letterAt) := goodIn_app (goodIn_of _ (by decide +kernel)) ggX6_tellsLink_X6_letterAt
theorem dX6_tellsLink_0 : decode cX6_tellsLink 0 = .ok (.iconst 0, 1) := by decide +kernel
theorem dX6_tellsLink_1 : decode cX6_tellsLink 1 = .ok (.istore_n 1, 1) := by decide +kernel
theorem dX6_tellsLink_2 : decode cX6_tellsLink 2 = .ok (.iload_n 1, 1) := by decide +kernel
theorem dX6_tellsLink_3 : decode cX6_tellsLink 3 = .ok (.aload_n 0, 1) := by decide +kernel
theorem dX6_tellsLink_4 : decode cX6_tellsLink 4 = .ok (.getfield 15, 3) := by decide +kernel
theorem dX6_tellsLink_7 : decode cX6_tellsLink 7 = .ok (.if_icmp .ge 21, 3) := by decide +kernel
theorem dX6_tellsLink_10 : decode cX6_tellsLink 10 = .ok (.aload_n 0, 1) := by decide +kernel
theorem dX6_tellsLink_11 : decode cX6_tellsLink 11 = .ok (.iload_n 1, 1) := by decide +kernel
theorem dX6_tellsLink_12 : decode cX6_tellsLink 12 = .ok (.invokevirtual 19, 3) := by decide +kernel
theorem dX6_tellsLink_15 : decode cX6_tellsLink 15 = .ok (.bipush 108, 2) := by decide +kernel
theorem dX6_tellsLink_17 : decode cX6_tellsLink 17 = .ok (.if_icmp .ne 5, 3) := by decide +kernel
theorem dX6_tellsLink_20 : decode cX6_tellsLink 20 = .ok (.iconst 1, 1) := by decide +kernel
theorem dX6_tellsLink_21 : decode cX6_tellsLink 21 = .ok (.ireturn, 1) := by decide +kernel
theorem dX6_tellsLink_22 : decode cX6_tellsLink 22 = .ok (.iinc 1 1, 3) := by decide +kernel
theorem dX6_tellsLink_25 : decode cX6_tellsLink 25 = .ok (.goto (-23), 3) := by decide +kernel
theorem dX6_tellsLink_28 : decode cX6_tellsLink 28 = .ok (.iconst 0, 1) := by decide +kernel
theorem dX6_tellsLink_29 : decode cX6_tellsLink 29 = .ok (.ireturn, 1) := by decide +kernel
set_option maxRecDepth 20000 in
theorem ggX6_isItem_X6_numbersOfItem : GoodIn wsX6_isItem wsX6_numbersOfItem := goodIn_r _ [5, 6, 7, 8, 4, 9, 10, 11, 21, 22] (by decide +kernel) (by decide +kernel)
set_option maxRecDepth 20000 in
theorem gX6_isItem_X6_numbersOfItem : GoodIn wsX6_isItem (wsV RX6 30 RX6 yX6_numbersOfItem wsX6_numbersOfItem) := goodIn_app (goodIn_of _ (by decide +kernel)) ggX6_isItem_X6_numbersOfItem
set_option maxRecDepth 20000 in
theorem ggX6_isItem_X6_letterAt : GoodIn wsX6_isItem wsX6_letterAt := goodIn_r _ [9, 10, 11, 21, 22] (by decide +kernel) (by decide +kernel)
set_option maxRecDepth 20000 in
theorem gX6_isItem_X6_letterAt : GoodIn wsX6_isItem (wsV RX6 19 RX6 yX6_letterAt wsX6_letterAt) := goodIn_app (goodIn_of _ (by decide +kernel)) ggX6_isItem_X6_letterAt
set_option maxRecDepth 20000 in
theorem ggX6_isItem_X6_number : GoodIn wsX6_isItem wsX6_number := goodIn_r _ [15, 6, 7, 8, 4, 9, 10, 11, 21, 22] (by decide +kernel) (by decide +kernel)
set_option maxRecDepth 20000 in
theorem gX6_isItem_X6_number : GoodIn wsX6_isItem (wsV RX6 33 RX6 yX6_number wsX6_number) := goodIn_app (goodIn_of _ (by decide +kernel)) ggX6_isItem_X6_number
set_option maxRecDepth 20000 in
theorem ggX6_isItem_X7_isFigure : GoodIn wsX6_isItem wsX7_isFigure := goodIn_r _ [18] (by decide +kernel) (by decide +kernel)
set_option maxRecDepth 20000 in
theorem gX6_isItem_X7_isFigure_n37 : GoodIn wsX6_isItem (wsX7_isFigure) := ggX6_isItem_X7_isFigure
set_option maxRecDepth 20000 in
theorem ggX6_isItem_X7_isMost : GoodIn wsX6_isItem wsX7_isMost := goodIn_r _ [20] (by decide +kernel) (by decide +kernel)
set_option maxRecDepth 20000 in
theorem gX6_isItem_X7_isMost_n40 : GoodIn wsX6_isItem (wsX7_isMost) := ggX6_isItem_X7_isMost
