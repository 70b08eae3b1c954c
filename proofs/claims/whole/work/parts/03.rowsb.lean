theorem dX8_slideRug_29 : decode cX8_slideRug 29 = .ok (.invokestatic 126, 3) := by decide +kernel
theorem dX8_slideRug_32 : decode cX8_slideRug 32 = .ok (.ifCond .ne 39, 3) := by decide +kernel
theorem dX8_slideRug_35 : decode cX8_slideRug 35 = .ok (.aload_n 0, 1) := by decide +kernel
theorem dX8_slideRug_36 : decode cX8_slideRug 36 = .ok (.iload_n 3, 1) := by decide +kernel
theorem dX8_slideRug_37 : decode cX8_slideRug 37 = .ok (.invokevirtual 236, 3) := by decide +kernel
theorem dX8_slideRug_40 : decode cX8_slideRug 40 = .ok (.ifCond .eq 31, 3) := by decide +kernel
theorem dX8_slideRug_43 : decode cX8_slideRug 43 = .ok (.aload_n 0, 1) := by decide +kernel
theorem dX8_slideRug_44 : decode cX8_slideRug 44 = .ok (.getfield 45, 3) := by decide +kernel
theorem dX8_slideRug_47 : decode cX8_slideRug 47 = .ok (.iload_n 1, 1) := by decide +kernel
theorem dX8_slideRug_48 : decode cX8_slideRug 48 = .ok (.iconst 0, 1) := by decide +kernel
theorem dX8_slideRug_49 : decode cX8_slideRug 49 = .ok (.invokestatic 182, 3) := by decide +kernel
theorem dX8_slideRug_52 : decode cX8_slideRug 52 = .ok (.aload_n 0, 1) := by decide +kernel
theorem dX8_slideRug_53 : decode cX8_slideRug 53 = .ok (.getfield 45, 3) := by decide +kernel
theorem dX8_slideRug_56 : decode cX8_slideRug 56 = .ok (.iload_n 3, 1) := by decide +kernel
theorem dX8_slideRug_57 : decode cX8_slideRug 57 = .ok (.iconst 1, 1) := by decide +kernel
theorem dX8_slideRug_58 : decode cX8_slideRug 58 = .ok (.invokestatic 182, 3) := by decide +kernel
theorem dX8_slideRug_61 : decode cX8_slideRug 61 = .ok (.aload_n 0, 1) := by decide +kernel
theorem dX8_slideRug_62 : decode cX8_slideRug 62 = .ok (.dup, 1) := by decide +kernel
theorem dX8_slideRug_63 : decode cX8_slideRug 63 = .ok (.getfield 69, 3) := by decide +kernel
theorem dX8_slideRug_66 : decode cX8_slideRug 66 = .ok (.iconst 1, 1) := by decide +kernel
theorem dX8_slideRug_67 : decode cX8_slideRug 67 = .ok (.iadd, 1) := by decide +kernel
theorem dX8_slideRug_68 : decode cX8_slideRug 68 = .ok (.putfield 69, 3) := by decide +kernel
theorem dX8_slideRug_71 : decode cX8_slideRug 71 = .ok (.return_, 1) := by decide +kernel
set_option maxRecDepth 20000 in
theorem ggX8_enter_X8_columnOf : GoodIn wsX8_enter wsX8_columnOf := goodIn_r _ [9, 10, 11, 25, 26, 27, 28, 29, 30, 31, 32, 33, 34, 35, 36, 37, 38, 48, 49, 50, 51, 52, 53, 54, 55, 56, 57, 58, 59, 60] (by decide +kernel) (by decide +kernel)
set_option maxRecDepth 20000 in
theorem gX8_enter_X8_columnOf : GoodIn wsX8_enter (wsV RX8 123 RX8 yX8_columnOf wsX8_columnOf) := goodIn_app (goodIn_of _ (by decide +kernel)) ggX8_enter_X8_columnOf
set_option maxRecDepth 20000 in
theorem ggX8_enter_X7_countStep : GoodIn wsX8_enter wsX7_countStep := goodIn_r _ [16, 17, 18, 19, 39, 40, 41, 42, 43, 44, 45, 46, 47] (by decide +kernel) (by decide +kernel)
set_option maxRecDepth 20000 in
theorem gX8_enter_X7_countStep : GoodIn wsX8_enter (wsV RX8 239 RX7 yX7_countStep wsX7_countStep) := goodIn_app (goodIn_of _ (by decide +kernel)) ggX8_enter_X7_countStep
set_option maxRecDepth 20000 in
theorem ggX8_enter_X9_at : GoodIn wsX8_enter wsX9_at := goodIn_ca (goodIn_r _ [22] (by decide +kernel) (by decide +kernel)) (goodIn_sub (fun _ h => List.mem_cons_of_mem _ (List.mem_append_right _ h)) (by decide +kernel))
set_option maxRecDepth 20000 in
theorem gX8_enter_X9_at_n126 : GoodIn wsX8_enter (wsX9_at) := ggX8_enter_X9_at
set_option maxRecDepth 20000 in
theorem ggX8_enter_X9_put : GoodIn wsX8_enter wsX9_put := goodIn_ca (goodIn_r _ [24] (by decide +kernel) (by decide +kernel)) (goodIn_sub (fun _ h => List.mem_cons_of_mem _ (List.mem_append_right _ h)) (by decide +kernel))
set_option maxRecDepth 20000 in
theorem gX8_enter_X9_put_n182 : GoodIn wsX8_enter (wsX9_put) := ggX8_enter_X9_put
theorem dX8_enter_0 : decode cX8_enter 0 = .ok (.aload_n 0, 1) := by decide +kernel
theorem dX8_enter_1 : decode cX8_enter 1 = .ok (.getfield 21, 3) := by decide +kernel
theorem dX8_enter_4 : decode cX8_enter 4 = .ok (.iload_n 1, 1) := by decide +kernel
theorem dX8_enter_5 : decode cX8_enter 5 = .ok (.putfield 148, 3) := by decide +kernel
theorem dX8_enter_8 : decode cX8_enter 8 = .ok (.aload_n 0, 1) := by decide +kernel
theorem dX8_enter_9 : decode cX8_enter 9 = .ok (.getfield 21, 3) := by decide +kernel
theorem dX8_enter_12 : decode cX8_enter 12 = .ok (.aload_n 0, 1) := by decide +kernel
theorem dX8_enter_13 : decode cX8_enter 13 = .ok (.iload_n 1, 1) := by decide +kernel
theorem dX8_enter_14 : decode cX8_enter 14 = .ok (.invokevirtual 123, 3) := by decide +kernel
theorem dX8_enter_17 : decode cX8_enter 17 = .ok (.putfield 204, 3) := by decide +kernel
theorem dX8_enter_20 : decode cX8_enter 20 = .ok (.aload_n 0, 1) := by decide +kernel
theorem dX8_enter_21 : decode cX8_enter 21 = .ok (.getfield 21, 3) := by decide +kernel
theorem dX8_enter_24 : decode cX8_enter 24 = .ok (.invokevirtual 239, 3) := by decide +kernel
theorem dX8_enter_27 : decode cX8_enter 27 = .ok (.aload_n 0, 1) := by decide +kernel
theorem dX8_enter_28 : decode cX8_enter 28 = .ok (.getfield 36, 3) := by decide +kernel
theorem dX8_enter_31 : decode cX8_enter 31 = .ok (.iload_n 1, 1) := by decide +kernel
theorem dX8_enter_32 : decode cX8_enter 32 = .ok (.aload_n 0, 1) := by decide +kernel
theorem dX8_enter_33 : decode cX8_enter 33 = .ok (.getfield 36, 3) := by decide +kernel
theorem dX8_enter_36 : decode cX8_enter 36 = .ok (.iload_n 1, 1) := by decide +kernel
theorem dX8_enter_37 : decode cX8_enter 37 = .ok (.invokestatic 126, 3) := by decide +kernel
theorem dX8_enter_40 : decode cX8_enter 40 = .ok (.iconst 1, 1) := by decide +kernel
theorem dX8_enter_41 : decode cX8_enter 41 = .ok (.iadd, 1) := by decide +kernel
theorem dX8_enter_42 : decode cX8_enter 42 = .ok (.invokestatic 182, 3) := by decide +kernel
theorem dX8_enter_45 : decode cX8_enter 45 = .ok (.return_, 1) := by decide +kernel
set_option maxRecDepth 20000 in
theorem ggX8_drySpills_X8_tileCount : GoodIn wsX8_drySpills wsX8_tileCount := goodIn_r _ [11, 12, 13, 14, 20, 21, 22, 23, 24, 25, 26, 27, 28, 29, 30, 31, 32, 33, 34, 35, 36, 37, 38, 39, 40, 41, 42, 43, 44, 45, 46] (by decide +kernel) (by decide +kernel)
set_option maxRecDepth 20000 in
theorem gX8_drySpills_X8_tileCount : GoodIn wsX8_drySpills (wsV RX8 242 RX8 yX8_tileCount wsX8_tileCount) := goodIn_app (goodIn_of _ (by decide +kernel)) ggX8_drySpills_X8_tileCount
set_option maxRecDepth 20000 in
theorem ggX8_drySpills_X9_at : GoodIn wsX8_drySpills wsX9_at := goodIn_ca (goodIn_r _ [17] (by decide +kernel) (by decide +kernel)) (goodIn_sub (fun _ h => List.mem_cons_of_mem _ (List.mem_append_right _ h)) (by decide +kernel))
set_option maxRecDepth 20000 in
theorem gX8_drySpills_X9_at_n126 : GoodIn wsX8_drySpills (wsX9_at) := ggX8_drySpills_X9_at
set_option maxRecDepth 20000 in
theorem ggX8_drySpills_X9_put : GoodIn wsX8_drySpills wsX9_put := goodIn_ca (goodIn_r _ [19] (by decide +kernel) (by decide +kernel)) (goodIn_sub (fun _ h => List.mem_cons_of_mem _ (List.mem_append_right _ h)) (by decide +kernel))
set_option maxRecDepth 20000 in
theorem gX8_drySpills_X9_put_n182 : GoodIn wsX8_drySpills (wsX9_put) := ggX8_drySpills_X9_put
theorem dX8_drySpills_0 : decode cX8_drySpills 0 = .ok (.aload_n 0, 1) := by decide +kernel
theorem dX8_drySpills_1 : decode cX8_drySpills 1 = .ok (.invokevirtual 242, 3) := by decide +kernel
theorem dX8_drySpills_4 : decode cX8_drySpills 4 = .ok (.istore_n 1, 1) := by decide +kernel
theorem dX8_drySpills_5 : decode cX8_drySpills 5 = .ok (.iconst 0, 1) := by decide +kernel
theorem dX8_drySpills_6 : decode cX8_drySpills 6 = .ok (.istore_n 2, 1) := by decide +kernel
theorem dX8_drySpills_7 : decode cX8_drySpills 7 = .ok (.iload_n 2, 1) := by decide +kernel
theorem dX8_drySpills_8 : decode cX8_drySpills 8 = .ok (.iload_n 1, 1) := by decide +kernel
theorem dX8_drySpills_9 : decode cX8_drySpills 9 = .ok (.if_icmp .ge 56, 3) := by decide +kernel
theorem dX8_drySpills_12 : decode cX8_drySpills 12 = .ok (.aload_n 0, 1) := by decide +kernel
theorem dX8_drySpills_13 : decode cX8_drySpills 13 = .ok (.getfield 39, 3) := by decide +kernel
theorem dX8_drySpills_16 : decode cX8_drySpills 16 = .ok (.iload_n 2, 1) := by decide +kernel
theorem dX8_drySpills_17 : decode cX8_drySpills 17 = .ok (.invokestatic 126, 3) := by decide +kernel
theorem dX8_drySpills_20 : decode cX8_drySpills 20 = .ok (.istore_n 3, 1) := by decide +kernel
theorem dX8_drySpills_21 : decode cX8_drySpills 21 = .ok (.iload_n 3, 1) := by decide +kernel
theorem dX8_drySpills_22 : decode cX8_drySpills 22 = .ok (.ifCond .le 37, 3) := by decide +kernel
theorem dX8_drySpills_25 : decode cX8_drySpills 25 = .ok (.aload_n 0, 1) := by decide +kernel
theorem dX8_drySpills_26 : decode cX8_drySpills 26 = .ok (.getfield 45, 3) := by decide +kernel
theorem dX8_drySpills_29 : decode cX8_drySpills 29 = .ok (.iload_n 2, 1) := by decide +kernel
theorem dX8_drySpills_30 : decode cX8_drySpills 30 = .ok (.invokestatic 126, 3) := by decide +kernel
theorem dX8_drySpills_33 : decode cX8_drySpills 33 = .ok (.ifCond .le 7, 3) := by decide +kernel
theorem dX8_drySpills_36 : decode cX8_drySpills 36 = .ok (.iconst 2, 1) := by decide +kernel
theorem dX8_drySpills_37 : decode cX8_drySpills 37 = .ok (.goto 4, 3) := by decide +kernel
theorem dX8_drySpills_40 : decode cX8_drySpills 40 = .ok (.iconst 1, 1) := by decide +kernel
theorem dX8_drySpills_41 : decode cX8_drySpills 41 = .ok (.istore 4, 2) := by decide +kernel
theorem dX8_drySpills_43 : decode cX8_drySpills 43 = .ok (.aload_n 0, 1) := by decide +kernel
theorem dX8_drySpills_44 : decode cX8_drySpills 44 = .ok (.getfield 39, 3) := by decide +kernel
theorem dX8_drySpills_47 : decode cX8_drySpills 47 = .ok (.iload_n 2, 1) := by decide +kernel
theorem dX8_drySpills_48 : decode cX8_drySpills 48 = .ok (.iload_n 3, 1) := by decide +kernel
theorem dX8_drySpills_49 : decode cX8_drySpills 49 = .ok (.iload 4, 2) := by decide +kernel
theorem dX8_drySpills_51 : decode cX8_drySpills 51 = .ok (.isub, 1) := by decide +kernel
theorem dX8_drySpills_52 : decode cX8_drySpills 52 = .ok (.iconst 0, 1) := by decide +kernel
theorem dX8_drySpills_53 : decode cX8_drySpills 53 = .ok (.invokestatic 245, 3) := by decide +kernel
theorem dX8_drySpills_56 : decode cX8_drySpills 56 = .ok (.invokestatic 182, 3) := by decide +kernel
theorem dX8_drySpills_59 : decode cX8_drySpills 59 = .ok (.iinc 2 1, 3) := by decide +kernel
theorem dX8_drySpills_62 : decode cX8_drySpills 62 = .ok (.goto (-55), 3) := by decide +kernel
theorem dX8_drySpills_65 : decode cX8_drySpills 65 = .ok (.return_, 1) := by decide +kernel
set_option maxRecDepth 20000 in
theorem ggX8_endNight_X3_add : GoodIn wsX8_endNight wsX3_add := goodIn_ca (goodIn_r _ [10, 11, 12, 13, 14, 15, 16, 17, 18, 19, 20, 9, 21, 22, 23, 24, 25, 26, 50, 51, 52] (by decide +kernel) (by decide +kernel)) (goodIn_sub (fun _ h => List.mem_cons_of_mem _ (List.mem_append_right _ h)) (by decide +kernel))
set_option maxRecDepth 20000 in
theorem gX8_endNight_X3_add : GoodIn wsX8_endNight (wsV RX8 251 RX3 yX3_add wsX3_add) := goodIn_app (goodIn_of _ (by decide +kernel)) ggX8_endNight_X3_add
theorem dX8_endNight_0 : decode cX8_endNight 0 = .ok (.aload_n 0, 1) := by decide +kernel
theorem dX8_endNight_1 : decode cX8_endNight 1 = .ok (.getfield 21, 3) := by decide +kernel
theorem dX8_endNight_4 : decode cX8_endNight 4 = .ok (.getfield 248, 3) := by decide +kernel
theorem dX8_endNight_7 : decode cX8_endNight 7 = .ok (.ifCond .le 21, 3) := by decide +kernel
theorem dX8_endNight_10 : decode cX8_endNight 10 = .ok (.aload_n 0, 1) := by decide +kernel
theorem dX8_endNight_11 : decode cX8_endNight 11 = .ok (.getfield 28, 3) := by decide +kernel
theorem dX8_endNight_14 : decode cX8_endNight 14 = .ok (.aload_n 0, 1) := by decide +kernel
theorem dX8_endNight_15 : decode cX8_endNight 15 = .ok (.getfield 63, 3) := by decide +kernel
theorem dX8_endNight_18 : decode cX8_endNight 18 = .ok (.aload_n 0, 1) := by decide +kernel
theorem dX8_endNight_19 : decode cX8_endNight 19 = .ok (.getfield 21, 3) := by decide +kernel
theorem dX8_endNight_22 : decode cX8_endNight 22 = .ok (.getfield 248, 3) := by decide +kernel
theorem dX8_endNight_25 : decode cX8_endNight 25 = .ok (.invokevirtual 251, 3) := by decide +kernel
theorem dX8_endNight_28 : decode cX8_endNight 28 = .ok (.aload_n 0, 1) := by decide +kernel
theorem dX8_endNight_29 : decode cX8_endNight 29 = .ok (.dup, 1) := by decide +kernel
theorem dX8_endNight_30 : decode cX8_endNight 30 = .ok (.getfield 63, 3) := by decide +kernel
theorem dX8_endNight_33 : decode cX8_endNight 33 = .ok (.iconst 1, 1) := by decide +kernel
theorem dX8_endNight_34 : decode cX8_endNight 34 = .ok (.iadd, 1) := by decide +kernel
theorem dX8_endNight_35 : decode cX8_endNight 35 = .ok (.putfield 63, 3) := by decide +kernel
theorem dX8_endNight_38 : decode cX8_endNight 38 = .ok (.aload_n 0, 1) := by decide +kernel
theorem dX8_endNight_39 : decode cX8_endNight 39 = .ok (.iconst 0, 1) := by decide +kernel
theorem dX8_endNight_40 : decode cX8_endNight 40 = .ok (.putfield 66, 3) := by decide +kernel
theorem dX8_endNight_43 : decode cX8_endNight 43 = .ok (.aload_n 0, 1) := by decide +kernel
theorem dX8_endNight_44 : decode cX8_endNight 44 = .ok (.getfield 21, 3) := by decide +kernel
theorem dX8_endNight_47 : decode cX8_endNight 47 = .ok (.iconst 0, 1) := by decide +kernel
theorem dX8_endNight_48 : decode cX8_endNight 48 = .ok (.putfield 248, 3) := by decide +kernel
theorem dX8_endNight_51 : decode cX8_endNight 51 = .ok (.return_, 1) := by decide +kernel
set_option maxRecDepth 20000 in
theorem ggX8_stirCurtains_X9_at : GoodIn wsX8_stirCurtains wsX9_at := goodIn_ca (goodIn_r _ [8] (by decide +kernel) (by decide +kernel)) (goodIn_sub (fun _ h => List.mem_cons_of_mem _ (List.mem_append_right _ h)) (by decide +kernel))
set_option maxRecDepth 20000 in
theorem gX8_stirCurtains_X9_at_n126 : GoodIn wsX8_stirCurtains (wsX9_at) := ggX8_stirCurtains_X9_at
set_option maxRecDepth 20000 in
theorem ggX8_stirCurtains_X9_put : GoodIn wsX8_stirCurtains wsX9_put := goodIn_ca (goodIn_r _ [10] (by decide +kernel) (by decide +kernel)) (goodIn_sub (fun _ h => List.mem_cons_of_mem _ (List.mem_append_right _ h)) (by decide +kernel))
set_option maxRecDepth 20000 in
theorem gX8_stirCurtains_X9_put_n182 : GoodIn wsX8_stirCurtains (wsX9_put) := ggX8_stirCurtains_X9_put
theorem dX8_stirCurtains_0 : decode cX8_stirCurtains 0 = .ok (.iconst 0, 1) := by decide +kernel
theorem dX8_stirCurtains_1 : decode cX8_stirCurtains 1 = .ok (.istore_n 1, 1) := by decide +kernel
theorem dX8_stirCurtains_2 : decode cX8_stirCurtains 2 = .ok (.iload_n 1, 1) := by decide +kernel
theorem dX8_stirCurtains_3 : decode cX8_stirCurtains 3 = .ok (.aload_n 0, 1) := by decide +kernel
theorem dX8_stirCurtains_4 : decode cX8_stirCurtains 4 = .ok (.getfield 12, 3) := by decide +kernel
theorem dX8_stirCurtains_7 : decode cX8_stirCurtains 7 = .ok (.getfield 95, 3) := by decide +kernel
theorem dX8_stirCurtains_10 : decode cX8_stirCurtains 10 = .ok (.if_icmp .ge 52, 3) := by decide +kernel
theorem dX8_stirCurtains_13 : decode cX8_stirCurtains 13 = .ok (.aload_n 0, 1) := by decide +kernel
theorem dX8_stirCurtains_14 : decode cX8_stirCurtains 14 = .ok (.getfield 12, 3) := by decide +kernel
theorem dX8_stirCurtains_17 : decode cX8_stirCurtains 17 = .ok (.getfield 254, 3) := by decide +kernel
theorem dX8_stirCurtains_20 : decode cX8_stirCurtains 20 = .ok (.iload_n 1, 1) := by decide +kernel
theorem dX8_stirCurtains_21 : decode cX8_stirCurtains 21 = .ok (.invokestatic 126, 3) := by decide +kernel
theorem dX8_stirCurtains_24 : decode cX8_stirCurtains 24 = .ok (.istore_n 2, 1) := by decide +kernel
theorem dX8_stirCurtains_25 : decode cX8_stirCurtains 25 = .ok (.iload_n 2, 1) := by decide +kernel
theorem dX8_stirCurtains_26 : decode cX8_stirCurtains 26 = .ok (.ifCond .le 30, 3) := by decide +kernel
theorem dX8_stirCurtains_29 : decode cX8_stirCurtains 29 = .ok (.aload_n 0, 1) := by decide +kernel
theorem dX8_stirCurtains_30 : decode cX8_stirCurtains 30 = .ok (.getfield 66, 3) := by decide +kernel
theorem dX8_stirCurtains_33 : decode cX8_stirCurtains 33 = .ok (.iload_n 2, 1) := by decide +kernel
theorem dX8_stirCurtains_34 : decode cX8_stirCurtains 34 = .ok (.irem, 1) := by decide +kernel
theorem dX8_stirCurtains_35 : decode cX8_stirCurtains 35 = .ok (.ifCond .ne 21, 3) := by decide +kernel
theorem dX8_stirCurtains_38 : decode cX8_stirCurtains 38 = .ok (.aload_n 0, 1) := by decide +kernel
theorem dX8_stirCurtains_39 : decode cX8_stirCurtains 39 = .ok (.getfield 32, 3) := by decide +kernel
theorem dX8_stirCurtains_42 : decode cX8_stirCurtains 42 = .ok (.iload_n 1, 1) := by decide +kernel
theorem dX8_stirCurtains_43 : decode cX8_stirCurtains 43 = .ok (.iconst 1, 1) := by decide +kernel
theorem dX8_stirCurtains_44 : decode cX8_stirCurtains 44 = .ok (.aload_n 0, 1) := by decide +kernel
theorem dX8_stirCurtains_45 : decode cX8_stirCurtains 45 = .ok (.getfield 32, 3) := by decide +kernel
theorem dX8_stirCurtains_48 : decode cX8_stirCurtains 48 = .ok (.iload_n 1, 1) := by decide +kernel
theorem dX8_stirCurtains_49 : decode cX8_stirCurtains 49 = .ok (.invokestatic 126, 3) := by decide +kernel
theorem dX8_stirCurtains_52 : decode cX8_stirCurtains 52 = .ok (.isub, 1) := by decide +kernel
theorem dX8_stirCurtains_53 : decode cX8_stirCurtains 53 = .ok (.invokestatic 182, 3) := by decide +kernel
theorem dX8_stirCurtains_56 : decode cX8_stirCurtains 56 = .ok (.iinc 1 1, 3) := by decide +kernel
theorem dX8_stirCurtains_59 : decode cX8_stirCurtains 59 = .ok (.goto (-57), 3) := by decide +kernel
theorem dX8_stirCurtains_62 : decode cX8_stirCurtains 62 = .ok (.return_, 1) := by decide +kernel
set_option maxRecDepth 20000 in
theorem ggX8_relocate_X8_isMoonOut : GoodIn wsX8_relocate wsX8_isMoonOut := goodIn_ca (goodIn_r _ [10, 3, 11, 12, 13, 14, 9, 15, 16, 17, 18, 19, 20, 21, 22, 23, 24, 51, 52, 53, 54, 55, 56, 57, 58, 59, 60, 61, 62, 63, 64, 74, 75, 76, 77, 78, 79, 80, 81, 82, 83, 84, 85, 86] (by decide +kernel) (by decide +kernel)) (goodIn_sub (fun _ h => List.mem_cons_of_mem _ (List.mem_append_right _ h)) (by decide +kernel))
set_option maxRecDepth 20000 in
theorem gX8_relocate_X8_isMoonOut : GoodIn wsX8_relocate (wsV RX8 109 RX8 yX8_isMoonOut wsX8_isMoonOut) := goodIn_app (goodIn_of _ (by decide +kernel)) ggX8_relocate_X8_isMoonOut
set_option maxRecDepth 20000 in
theorem ggX8_relocate_X8_liesInMoonlight : GoodIn wsX8_relocate wsX8_liesInMoonlight := goodIn_ca (goodIn_r _ [28, 29, 30, 31, 32, 9, 33, 3, 4, 34, 35, 36, 37, 38, 11, 39, 40, 41, 42, 43, 44, 45, 51, 52, 53, 54, 55, 56, 57, 58, 59, 60, 61, 62, 63, 64, 74, 75, 76, 77, 78, 79, 80, 81, 82, 83, 84, 85, 86] (by decide +kernel) (by decide +kernel)) (goodIn_sub (fun _ h => List.mem_cons_of_mem _ (List.mem_append_right _ h)) (by decide +kernel))
set_option maxRecDepth 20000 in
theorem gX8_relocate_X8_liesInMoonlight : GoodIn wsX8_relocate (wsV RX8 113 RX8 yX8_liesInMoonlight wsX8_liesInMoonlight) := goodIn_app (goodIn_of _ (by decide +kernel)) ggX8_relocate_X8_liesInMoonlight
set_option maxRecDepth 20000 in
theorem ggX8_relocate_X8_settle : GoodIn wsX8_relocate wsX8_settle := goodIn_ca (goodIn_r _ [49, 3, 4, 29, 50, 1, 2, 5, 34, 35, 36, 9, 37, 38, 11, 43, 44, 45, 51, 52, 53, 54, 55, 56, 57, 58, 59, 60, 61, 62, 63, 64, 74, 75, 76, 77, 78, 79, 80, 81, 82, 83, 84, 85, 86, 65, 66, 67, 68, 69, 70, 71, 72, 73] (by decide +kernel) (by decide +kernel)) (goodIn_sub (fun _ h => List.mem_cons_of_mem _ (List.mem_append_right _ h)) (by decide +kernel))
set_option maxRecDepth 20000 in
theorem gX8_relocate_X8_settle : GoodIn wsX8_relocate (wsV RX8 257 RX8 yX8_settle wsX8_settle) := goodIn_app (goodIn_of _ (by decide +kernel)) ggX8_relocate_X8_settle
theorem dX8_relocate_0 : decode cX8_relocate 0 = .ok (.aload_n 0, 1) := by decide +kernel
theorem dX8_relocate_1 : decode cX8_relocate 1 = .ok (.invokevirtual 109, 3) := by decide +kernel
theorem dX8_relocate_4 : decode cX8_relocate 4 = .ok (.ifCond .eq 28, 3) := by decide +kernel
theorem dX8_relocate_7 : decode cX8_relocate 7 = .ok (.aload_n 0, 1) := by decide +kernel
theorem dX8_relocate_8 : decode cX8_relocate 8 = .ok (.getfield 21, 3) := by decide +kernel
theorem dX8_relocate_11 : decode cX8_relocate 11 = .ok (.getfield 148, 3) := by decide +kernel
theorem dX8_relocate_14 : decode cX8_relocate 14 = .ok (.iconst (-1), 1) := by decide +kernel
theorem dX8_relocate_15 : decode cX8_relocate 15 = .ok (.if_icmp .eq 18, 3) := by decide +kernel
theorem dX8_relocate_18 : decode cX8_relocate 18 = .ok (.aload_n 0, 1) := by decide +kernel
theorem dX8_relocate_19 : decode cX8_relocate 19 = .ok (.aload_n 0, 1) := by decide +kernel
theorem dX8_relocate_20 : decode cX8_relocate 20 = .ok (.getfield 21, 3) := by decide +kernel
theorem dX8_relocate_23 : decode cX8_relocate 23 = .ok (.getfield 148, 3) := by decide +kernel
theorem dX8_relocate_26 : decode cX8_relocate 26 = .ok (.invokevirtual 113, 3) := by decide +kernel
theorem dX8_relocate_29 : decode cX8_relocate 29 = .ok (.ifCond .eq 4, 3) := by decide +kernel
theorem dX8_relocate_32 : decode cX8_relocate 32 = .ok (.return_, 1) := by decide +kernel
theorem dX8_relocate_33 : decode cX8_relocate 33 = .ok (.aload_n 0, 1) := by decide +kernel
theorem dX8_relocate_34 : decode cX8_relocate 34 = .ok (.getfield 21, 3) := by decide +kernel
theorem dX8_relocate_37 : decode cX8_relocate 37 = .ok (.iconst (-1), 1) := by decide +kernel
theorem dX8_relocate_38 : decode cX8_relocate 38 = .ok (.putfield 148, 3) := by decide +kernel
theorem dX8_relocate_41 : decode cX8_relocate 41 = .ok (.iconst 0, 1) := by decide +kernel
theorem dX8_relocate_42 : decode cX8_relocate 42 = .ok (.istore_n 1, 1) := by decide +kernel
theorem dX8_relocate_43 : decode cX8_relocate 43 = .ok (.iload_n 1, 1) := by decide +kernel
theorem dX8_relocate_44 : decode cX8_relocate 44 = .ok (.aload_n 0, 1) := by decide +kernel
theorem dX8_relocate_45 : decode cX8_relocate 45 = .ok (.getfield 12, 3) := by decide +kernel
theorem dX8_relocate_48 : decode cX8_relocate 48 = .ok (.getfield 95, 3) := by decide +kernel
theorem dX8_relocate_51 : decode cX8_relocate 51 = .ok (.if_icmp .ge 42, 3) := by decide +kernel
theorem dX8_relocate_54 : decode cX8_relocate 54 = .ok (.aload_n 0, 1) := by decide +kernel
theorem dX8_relocate_55 : decode cX8_relocate 55 = .ok (.aload_n 0, 1) := by decide +kernel
theorem dX8_relocate_56 : decode cX8_relocate 56 = .ok (.getfield 21, 3) := by decide +kernel
theorem dX8_relocate_59 : decode cX8_relocate 59 = .ok (.getfield 204, 3) := by decide +kernel
theorem dX8_relocate_62 : decode cX8_relocate 62 = .ok (.iload_n 1, 1) := by decide +kernel
theorem dX8_relocate_63 : decode cX8_relocate 63 = .ok (.isub, 1) := by decide +kernel
theorem dX8_relocate_64 : decode cX8_relocate 64 = .ok (.invokevirtual 257, 3) := by decide +kernel
theorem dX8_relocate_67 : decode cX8_relocate 67 = .ok (.ifCond .ne 19, 3) := by decide +kernel
theorem dX8_relocate_70 : decode cX8_relocate 70 = .ok (.aload_n 0, 1) := by decide +kernel
theorem dX8_relocate_71 : decode cX8_relocate 71 = .ok (.aload_n 0, 1) := by decide +kernel
theorem dX8_relocate_72 : decode cX8_relocate 72 = .ok (.getfield 21, 3) := by decide +kernel
theorem dX8_relocate_75 : decode cX8_relocate 75 = .ok (.getfield 204, 3) := by decide +kernel
theorem dX8_relocate_78 : decode cX8_relocate 78 = .ok (.iload_n 1, 1) := by decide +kernel
theorem dX8_relocate_79 : decode cX8_relocate 79 = .ok (.iadd, 1) := by decide +kernel
theorem dX8_relocate_80 : decode cX8_relocate 80 = .ok (.invokevirtual 257, 3) := by decide +kernel
theorem dX8_relocate_83 : decode cX8_relocate 83 = .ok (.ifCond .eq 4, 3) := by decide +kernel
theorem dX8_relocate_86 : decode cX8_relocate 86 = .ok (.return_, 1) := by decide +kernel
theorem dX8_relocate_87 : decode cX8_relocate 87 = .ok (.iinc 1 1, 3) := by decide +kernel
theorem dX8_relocate_90 : decode cX8_relocate 90 = .ok (.goto (-47), 3) := by decide +kernel
theorem dX8_relocate_93 : decode cX8_relocate 93 = .ok (.return_, 1) := by decide +kernel
set_option maxRecDepth 20000 in
theorem ggX8_settle_X8_rowInMoonlight : GoodIn wsX8_settle wsX8_rowInMoonlight := goodIn_r _ [12, 1, 13, 14, 18, 19, 20, 21, 22, 23, 24, 25, 26, 27, 28, 29, 30, 31, 32, 33, 34, 35, 36, 37, 38, 39, 40, 41, 42, 43, 44] (by decide +kernel) (by decide +kernel)
set_option maxRecDepth 20000 in
theorem gX8_settle_X8_rowInMoonlight : GoodIn wsX8_settle (wsV RX8 120 RX8 yX8_rowInMoonlight wsX8_rowInMoonlight) := goodIn_app (goodIn_of _ (by decide +kernel)) ggX8_settle_X8_rowInMoonlight
set_option maxRecDepth 20000 in
theorem ggX8_settle_X9_at : GoodIn wsX8_settle wsX9_at := goodIn_ca (goodIn_r _ [17] (by decide +kernel) (by decide +kernel)) (goodIn_sub (fun _ h => List.mem_cons_of_mem _ (List.mem_append_right _ h)) (by decide +kernel))
set_option maxRecDepth 20000 in
theorem gX8_settle_X9_at_n126 : GoodIn wsX8_settle (wsX9_at) := ggX8_settle_X9_at
theorem dX8_settle_0 : decode cX8_settle 0 = .ok (.aload_n 0, 1) := by decide +kernel
theorem dX8_settle_1 : decode cX8_settle 1 = .ok (.invokevirtual 120, 3) := by decide +kernel
theorem dX8_settle_4 : decode cX8_settle 4 = .ok (.aload_n 0, 1) := by decide +kernel
theorem dX8_settle_5 : decode cX8_settle 5 = .ok (.getfield 12, 3) := by decide +kernel
theorem dX8_settle_8 : decode cX8_settle 8 = .ok (.getfield 95, 3) := by decide +kernel
theorem dX8_settle_11 : decode cX8_settle 11 = .ok (.imul, 1) := by decide +kernel
theorem dX8_settle_12 : decode cX8_settle 12 = .ok (.iload_n 1, 1) := by decide +kernel
theorem dX8_settle_13 : decode cX8_settle 13 = .ok (.iadd, 1) := by decide +kernel
theorem dX8_settle_14 : decode cX8_settle 14 = .ok (.istore_n 2, 1) := by decide +kernel
theorem dX8_settle_15 : decode cX8_settle 15 = .ok (.iload_n 1, 1) := by decide +kernel
theorem dX8_settle_16 : decode cX8_settle 16 = .ok (.ifCond .lt 36, 3) := by decide +kernel
theorem dX8_settle_19 : decode cX8_settle 19 = .ok (.iload_n 1, 1) := by decide +kernel
theorem dX8_settle_20 : decode cX8_settle 20 = .ok (.aload_n 0, 1) := by decide +kernel
theorem dX8_settle_21 : decode cX8_settle 21 = .ok (.getfield 12, 3) := by decide +kernel
theorem dX8_settle_24 : decode cX8_settle 24 = .ok (.getfield 95, 3) := by decide +kernel
theorem dX8_settle_27 : decode cX8_settle 27 = .ok (.if_icmp .ge 25, 3) := by decide +kernel
theorem dX8_settle_30 : decode cX8_settle 30 = .ok (.aload_n 0, 1) := by decide +kernel
theorem dX8_settle_31 : decode cX8_settle 31 = .ok (.getfield 32, 3) := by decide +kernel
theorem dX8_settle_34 : decode cX8_settle 34 = .ok (.iload_n 1, 1) := by decide +kernel
theorem dX8_settle_35 : decode cX8_settle 35 = .ok (.invokestatic 126, 3) := by decide +kernel
theorem dX8_settle_38 : decode cX8_settle 38 = .ok (.ifCond .gt 14, 3) := by decide +kernel
theorem dX8_settle_41 : decode cX8_settle 41 = .ok (.aload_n 0, 1) := by decide +kernel
theorem dX8_settle_42 : decode cX8_settle 42 = .ok (.getfield 39, 3) := by decide +kernel
theorem dX8_settle_45 : decode cX8_settle 45 = .ok (.iload_n 2, 1) := by decide +kernel
theorem dX8_settle_46 : decode cX8_settle 46 = .ok (.invokestatic 126, 3) := by decide +kernel
theorem dX8_settle_49 : decode cX8_settle 49 = .ok (.ifCond .le 5, 3) := by decide +kernel
theorem dX8_settle_52 : decode cX8_settle 52 = .ok (.iconst 0, 1) := by decide +kernel
theorem dX8_settle_53 : decode cX8_settle 53 = .ok (.ireturn, 1) := by decide +kernel
theorem dX8_settle_54 : decode cX8_settle 54 = .ok (.aload_n 0, 1) := by decide +kernel
theorem dX8_settle_55 : decode cX8_settle 55 = .ok (.getfield 21, 3) := by decide +kernel
theorem dX8_settle_58 : decode cX8_settle 58 = .ok (.iload_n 2, 1) := by decide +kernel
theorem dX8_settle_59 : decode cX8_settle 59 = .ok (.putfield 148, 3) := by decide +kernel
theorem dX8_settle_62 : decode cX8_settle 62 = .ok (.aload_n 0, 1) := by decide +kernel
theorem dX8_settle_63 : decode cX8_settle 63 = .ok (.getfield 21, 3) := by decide +kernel
theorem dX8_settle_66 : decode cX8_settle 66 = .ok (.iload_n 1, 1) := by decide +kernel
theorem dX8_settle_67 : decode cX8_settle 67 = .ok (.putfield 204, 3) := by decide +kernel
theorem dX8_settle_70 : decode cX8_settle 70 = .ok (.iconst 1, 1) := by decide +kernel
theorem dX8_settle_71 : decode cX8_settle 71 = .ok (.ireturn, 1) := by decide +kernel
set_option maxRecDepth 20000 in
theorem ggX8_obstacle_X8_isMoonOut : GoodIn wsX8_obstacle wsX8_isMoonOut := goodIn_ca (goodIn_r _ [11, 12, 13, 14, 15, 16, 10, 17, 18, 19, 20, 21, 22, 23, 24, 25, 26, 40, 41, 42, 43, 44, 45, 46, 47, 48, 49, 50, 51, 52, 53, 63, 64, 65, 66, 67, 68, 69, 70, 71, 72, 73, 74, 75] (by decide +kernel) (by decide +kernel)) (goodIn_sub (fun _ h => List.mem_cons_of_mem _ (List.mem_append_right _ h)) (by decide +kernel))
set_option maxRecDepth 20000 in
theorem gX8_obstacle_X8_isMoonOut : GoodIn wsX8_obstacle (wsV RX8 109 RX8 yX8_isMoonOut wsX8_isMoonOut) := goodIn_app (goodIn_of _ (by decide +kernel)) ggX8_obstacle_X8_isMoonOut
set_option maxRecDepth 20000 in
theorem ggX8_obstacle_X8_neighbor : GoodIn wsX8_obstacle wsX8_neighbor := goodIn_r _ [30, 12, 31, 32, 40, 41, 42, 43, 44, 45, 46, 47, 48, 49, 50, 51, 52, 53, 63, 64, 65, 66, 67, 68, 69, 70, 71, 72, 73, 74, 75] (by decide +kernel) (by decide +kernel)
set_option maxRecDepth 20000 in
theorem gX8_obstacle_X8_neighbor : GoodIn wsX8_obstacle (wsV RX8 179 RX8 yX8_neighbor wsX8_neighbor) := goodIn_app (goodIn_of _ (by decide +kernel)) ggX8_obstacle_X8_neighbor
set_option maxRecDepth 20000 in
theorem ggX8_obstacle_X8_columnOf : GoodIn wsX8_obstacle wsX8_columnOf := goodIn_r _ [36, 12, 31, 40, 41, 42, 43, 44, 45, 46, 47, 48, 49, 50, 51, 52, 53, 63, 64, 65, 66, 67, 68, 69, 70, 71, 72, 73, 74, 75] (by decide +kernel) (by decide +kernel)
set_option maxRecDepth 20000 in
theorem gX8_obstacle_X8_columnOf : GoodIn wsX8_obstacle (wsV RX8 123 RX8 yX8_columnOf wsX8_columnOf) := goodIn_app (goodIn_of _ (by decide +kernel)) ggX8_obstacle_X8_columnOf
set_option maxRecDepth 20000 in
theorem ggX8_obstacle_X9_at : GoodIn wsX8_obstacle wsX9_at := goodIn_ca (goodIn_r _ [39] (by decide +kernel) (by decide +kernel)) (goodIn_sub (fun _ h => List.mem_cons_of_mem _ (List.mem_append_right _ h)) (by decide +kernel))
set_option maxRecDepth 20000 in
theorem gX8_obstacle_X9_at_n126 : GoodIn wsX8_obstacle (wsX9_at) := ggX8_obstacle_X9_at
theorem dX8_obstacle_0 : decode cX8_obstacle 0 = .ok (.aload_n 0, 1) := by decide +kernel
theorem dX8_obstacle_1 : decode cX8_obstacle 1 = .ok (.getfield 21, 3) := by decide +kernel
theorem dX8_obstacle_4 : decode cX8_obstacle 4 = .ok (.getfield 148, 3) := by decide +kernel
theorem dX8_obstacle_7 : decode cX8_obstacle 7 = .ok (.iconst (-1), 1) := by decide +kernel
theorem dX8_obstacle_8 : decode cX8_obstacle 8 = .ok (.if_icmp .ne 5, 3) := by decide +kernel
theorem dX8_obstacle_11 : decode cX8_obstacle 11 = .ok (.iconst 1, 1) := by decide +kernel
theorem dX8_obstacle_12 : decode cX8_obstacle 12 = .ok (.ireturn, 1) := by decide +kernel
theorem dX8_obstacle_13 : decode cX8_obstacle 13 = .ok (.aload_n 0, 1) := by decide +kernel
theorem dX8_obstacle_14 : decode cX8_obstacle 14 = .ok (.invokevirtual 109, 3) := by decide +kernel
theorem dX8_obstacle_17 : decode cX8_obstacle 17 = .ok (.ifCond .ne 5, 3) := by decide +kernel
theorem dX8_obstacle_20 : decode cX8_obstacle 20 = .ok (.iconst 2, 1) := by decide +kernel
theorem dX8_obstacle_21 : decode cX8_obstacle 21 = .ok (.ireturn, 1) := by decide +kernel
theorem dX8_obstacle_22 : decode cX8_obstacle 22 = .ok (.aload_n 0, 1) := by decide +kernel
theorem dX8_obstacle_23 : decode cX8_obstacle 23 = .ok (.getfield 21, 3) := by decide +kernel
theorem dX8_obstacle_26 : decode cX8_obstacle 26 = .ok (.getfield 145, 3) := by decide +kernel
theorem dX8_obstacle_29 : decode cX8_obstacle 29 = .ok (.ifCond .le 5, 3) := by decide +kernel
theorem dX8_obstacle_32 : decode cX8_obstacle 32 = .ok (.iconst 3, 1) := by decide +kernel
theorem dX8_obstacle_33 : decode cX8_obstacle 33 = .ok (.ireturn, 1) := by decide +kernel
theorem dX8_obstacle_34 : decode cX8_obstacle 34 = .ok (.aload_n 0, 1) := by decide +kernel
theorem dX8_obstacle_35 : decode cX8_obstacle 35 = .ok (.aload_n 0, 1) := by decide +kernel
theorem dX8_obstacle_36 : decode cX8_obstacle 36 = .ok (.getfield 21, 3) := by decide +kernel
theorem dX8_obstacle_39 : decode cX8_obstacle 39 = .ok (.getfield 148, 3) := by decide +kernel
theorem dX8_obstacle_42 : decode cX8_obstacle 42 = .ok (.aload_n 0, 1) := by decide +kernel
theorem dX8_obstacle_43 : decode cX8_obstacle 43 = .ok (.getfield 21, 3) := by decide +kernel
theorem dX8_obstacle_46 : decode cX8_obstacle 46 = .ok (.getfield 207, 3) := by decide +kernel
theorem dX8_obstacle_49 : decode cX8_obstacle 49 = .ok (.ifCond .eq 7, 3) := by decide +kernel
theorem dX8_obstacle_52 : decode cX8_obstacle 52 = .ok (.iconst 4, 1) := by decide +kernel
theorem dX8_obstacle_53 : decode cX8_obstacle 53 = .ok (.goto 4, 3) := by decide +kernel
theorem dX8_obstacle_56 : decode cX8_obstacle 56 = .ok (.iconst 3, 1) := by decide +kernel
theorem dX8_obstacle_57 : decode cX8_obstacle 57 = .ok (.invokevirtual 179, 3) := by decide +kernel
theorem dX8_obstacle_60 : decode cX8_obstacle 60 = .ok (.istore_n 1, 1) := by decide +kernel
theorem dX8_obstacle_61 : decode cX8_obstacle 61 = .ok (.iload_n 1, 1) := by decide +kernel
theorem dX8_obstacle_62 : decode cX8_obstacle 62 = .ok (.iconst (-1), 1) := by decide +kernel
theorem dX8_obstacle_63 : decode cX8_obstacle 63 = .ok (.if_icmp .ne 5, 3) := by decide +kernel
theorem dX8_obstacle_66 : decode cX8_obstacle 66 = .ok (.iconst 4, 1) := by decide +kernel
theorem dX8_obstacle_67 : decode cX8_obstacle 67 = .ok (.ireturn, 1) := by decide +kernel
theorem dX8_obstacle_68 : decode cX8_obstacle 68 = .ok (.aload_n 0, 1) := by decide +kernel
theorem dX8_obstacle_69 : decode cX8_obstacle 69 = .ok (.getfield 32, 3) := by decide +kernel
theorem dX8_obstacle_72 : decode cX8_obstacle 72 = .ok (.aload_n 0, 1) := by decide +kernel
theorem dX8_obstacle_73 : decode cX8_obstacle 73 = .ok (.iload_n 1, 1) := by decide +kernel
theorem dX8_obstacle_74 : decode cX8_obstacle 74 = .ok (.invokevirtual 123, 3) := by decide +kernel
theorem dX8_obstacle_77 : decode cX8_obstacle 77 = .ok (.invokestatic 126, 3) := by decide +kernel
theorem dX8_obstacle_80 : decode cX8_obstacle 80 = .ok (.ifCond .le 5, 3) := by decide +kernel
theorem dX8_obstacle_83 : decode cX8_obstacle 83 = .ok (.iconst 5, 1) := by decide +kernel
theorem dX8_obstacle_84 : decode cX8_obstacle 84 = .ok (.ireturn, 1) := by decide +kernel
theorem dX8_obstacle_85 : decode cX8_obstacle 85 = .ok (.aload_n 0, 1) := by decide +kernel
theorem dX8_obstacle_86 : decode cX8_obstacle 86 = .ok (.getfield 39, 3) := by decide +kernel
theorem dX8_obstacle_89 : decode cX8_obstacle 89 = .ok (.iload_n 1, 1) := by decide +kernel
theorem dX8_obstacle_90 : decode cX8_obstacle 90 = .ok (.invokestatic 126, 3) := by decide +kernel
theorem dX8_obstacle_93 : decode cX8_obstacle 93 = .ok (.ifCond .le 8, 3) := by decide +kernel
theorem dX8_obstacle_96 : decode cX8_obstacle 96 = .ok (.bipush 6, 2) := by decide +kernel
theorem dX8_obstacle_98 : decode cX8_obstacle 98 = .ok (.goto 4, 3) := by decide +kernel
theorem dX8_obstacle_101 : decode cX8_obstacle 101 = .ok (.iconst 0, 1) := by decide +kernel
theorem dX8_obstacle_102 : decode cX8_obstacle 102 = .ok (.ireturn, 1) := by decide +kernel
set_option maxRecDepth 20000 in
theorem ggX8_picture_X9_at : GoodIn wsX8_picture wsX9_at := goodIn_ca (goodIn_r _ [9] (by decide +kernel) (by decide +kernel)) (goodIn_sub (fun _ h => List.mem_cons_of_mem _ (List.mem_append_right _ h)) (by decide +kernel))
set_option maxRecDepth 20000 in
theorem gX8_picture_X9_at_n126 : GoodIn wsX8_picture (wsX9_at) := ggX8_picture_X9_at
set_option maxRecDepth 20000 in
theorem ggX8_picture_X8_isTileLit : GoodIn wsX8_picture wsX8_isTileLit := goodIn_ca (goodIn_r _ [14, 15, 16, 17, 13, 18, 19, 20, 21, 22, 23, 24, 25, 26, 27, 28, 29, 30, 31, 32, 33, 34, 35, 36, 37, 38, 39, 40, 41, 42, 43, 44, 45, 46, 47, 48, 49, 50, 51, 52, 7, 8, 9, 53, 54, 55, 56, 57, 58, 59, 60, 61, 62, 63, 64, 65, 66, 76, 77, 78, 79, 80, 81, 82, 83, 84, 85, 86, 87, 88] (by decide +kernel) (by decide +kernel)) (goodIn_sub (fun _ h => List.mem_cons_of_mem _ (List.mem_append_right _ h)) (by decide +kernel))
set_option maxRecDepth 20000 in
theorem gX8_picture_X8_isTileLit : GoodIn wsX8_picture (wsV RX8 260 RX8 yX8_isTileLit wsX8_isTileLit) := goodIn_app (goodIn_of _ (by decide +kernel)) ggX8_picture_X8_isTileLit
theorem dX8_picture_0 : decode cX8_picture 0 = .ok (.aload_n 0, 1) := by decide +kernel
theorem dX8_picture_1 : decode cX8_picture 1 = .ok (.getfield 21, 3) := by decide +kernel
theorem dX8_picture_4 : decode cX8_picture 4 = .ok (.getfield 148, 3) := by decide +kernel
theorem dX8_picture_7 : decode cX8_picture 7 = .ok (.iload_n 1, 1) := by decide +kernel
theorem dX8_picture_8 : decode cX8_picture 8 = .ok (.if_icmp .ne 6, 3) := by decide +kernel
theorem dX8_picture_11 : decode cX8_picture 11 = .ok (.bipush 87, 2) := by decide +kernel
theorem dX8_picture_13 : decode cX8_picture 13 = .ok (.ireturn, 1) := by decide +kernel
theorem dX8_picture_14 : decode cX8_picture 14 = .ok (.aload_n 0, 1) := by decide +kernel
theorem dX8_picture_15 : decode cX8_picture 15 = .ok (.getfield 72, 3) := by decide +kernel
theorem dX8_picture_18 : decode cX8_picture 18 = .ok (.iload_n 1, 1) := by decide +kernel
theorem dX8_picture_19 : decode cX8_picture 19 = .ok (.if_icmp .ne 6, 3) := by decide +kernel
theorem dX8_picture_22 : decode cX8_picture 22 = .ok (.bipush 67, 2) := by decide +kernel
theorem dX8_picture_24 : decode cX8_picture 24 = .ok (.ireturn, 1) := by decide +kernel
theorem dX8_picture_25 : decode cX8_picture 25 = .ok (.aload_n 0, 1) := by decide +kernel
theorem dX8_picture_26 : decode cX8_picture 26 = .ok (.getfield 42, 3) := by decide +kernel
theorem dX8_picture_29 : decode cX8_picture 29 = .ok (.iload_n 1, 1) := by decide +kernel
theorem dX8_picture_30 : decode cX8_picture 30 = .ok (.invokestatic 126, 3) := by decide +kernel
theorem dX8_picture_33 : decode cX8_picture 33 = .ok (.ifCond .le 6, 3) := by decide +kernel
theorem dX8_picture_36 : decode cX8_picture 36 = .ok (.bipush 111, 2) := by decide +kernel
theorem dX8_picture_38 : decode cX8_picture 38 = .ok (.ireturn, 1) := by decide +kernel
theorem dX8_picture_39 : decode cX8_picture 39 = .ok (.aload_n 0, 1) := by decide +kernel
theorem dX8_picture_40 : decode cX8_picture 40 = .ok (.getfield 39, 3) := by decide +kernel
theorem dX8_picture_43 : decode cX8_picture 43 = .ok (.iload_n 1, 1) := by decide +kernel
theorem dX8_picture_44 : decode cX8_picture 44 = .ok (.invokestatic 126, 3) := by decide +kernel
theorem dX8_picture_47 : decode cX8_picture 47 = .ok (.ifCond .le 6, 3) := by decide +kernel
theorem dX8_picture_50 : decode cX8_picture 50 = .ok (.bipush 126, 2) := by decide +kernel
theorem dX8_picture_52 : decode cX8_picture 52 = .ok (.ireturn, 1) := by decide +kernel
theorem dX8_picture_53 : decode cX8_picture 53 = .ok (.aload_n 0, 1) := by decide +kernel
theorem dX8_picture_54 : decode cX8_picture 54 = .ok (.getfield 45, 3) := by decide +kernel
theorem dX8_picture_57 : decode cX8_picture 57 = .ok (.iload_n 1, 1) := by decide +kernel
theorem dX8_picture_58 : decode cX8_picture 58 = .ok (.invokestatic 126, 3) := by decide +kernel
theorem dX8_picture_61 : decode cX8_picture 61 = .ok (.ifCond .le 6, 3) := by decide +kernel
theorem dX8_picture_64 : decode cX8_picture 64 = .ok (.bipush 114, 2) := by decide +kernel
theorem dX8_picture_66 : decode cX8_picture 66 = .ok (.ireturn, 1) := by decide +kernel
theorem dX8_picture_67 : decode cX8_picture 67 = .ok (.aload_n 0, 1) := by decide +kernel
theorem dX8_picture_68 : decode cX8_picture 68 = .ok (.iload_n 1, 1) := by decide +kernel
theorem dX8_picture_69 : decode cX8_picture 69 = .ok (.invokevirtual 260, 3) := by decide +kernel
theorem dX8_picture_72 : decode cX8_picture 72 = .ok (.ifCond .eq 8, 3) := by decide +kernel
theorem dX8_picture_75 : decode cX8_picture 75 = .ok (.bipush 42, 2) := by decide +kernel
theorem dX8_picture_77 : decode cX8_picture 77 = .ok (.goto 5, 3) := by decide +kernel
theorem dX8_picture_80 : decode cX8_picture 80 = .ok (.bipush 46, 2) := by decide +kernel
theorem dX8_picture_82 : decode cX8_picture 82 = .ok (.ireturn, 1) := by decide +kernel
set_option maxRecDepth 20000 in
theorem ggX9_init_J4_init_da8c8 : GoodIn wsX9_init wsJ4_init_da8c8 := goodIn_r _ [27, 28, 29, 30, 31, 32, 2, 3, 33, 34, 35, 36, 37, 38, 39, 40, 41, 42, 43, 44, 116, 117, 118, 119] (by decide +kernel) (by decide +kernel)
set_option maxRecDepth 20000 in
theorem gX9_init_J4_init_da8c8 : GoodIn wsX9_init (wsJ4_init_da8c8) := ggX9_init_J4_init_da8c8
set_option maxRecDepth 20000 in
theorem ggX9_init_X8_init : GoodIn wsX9_init wsX8_init := goodIn_r _ [46, 47, 2, 3, 48, 49, 50, 51, 52, 53, 54, 55, 56, 57, 58, 59, 4, 60, 61, 62, 63, 64, 65, 66, 67, 68, 69, 70, 71, 72, 73, 74, 75, 76, 77, 78, 79, 150, 151, 152, 153, 154, 155, 156, 157, 158, 159, 160, 161, 162, 120, 121, 122, 123, 124, 125, 126, 127, 128, 129, 130, 131, 132, 133, 163, 164, 165, 166, 167, 168, 169, 170, 171, 172, 173, 174] (by decide +kernel) (by decide +kernel)
set_option maxRecDepth 20000 in
theorem gX9_init_X8_init_n22 : GoodIn wsX9_init (wsX8_init) := ggX9_init_X8_init
set_option maxRecDepth 20000 in
theorem ggX9_init_X4_init : GoodIn wsX9_init wsX4_init := goodIn_r _ [82, 83, 2, 3, 84, 85, 86, 87, 4, 88, 89, 90, 91, 92, 93, 94, 95, 96, 97, 98, 99, 175, 176, 177, 178, 179, 134, 135, 136, 137, 138, 139, 140, 141, 142, 143, 144] (by decide +kernel) (by decide +kernel)
set_option maxRecDepth 20000 in
theorem gX9_init_X4_init : GoodIn wsX9_init (wsX4_init) := ggX9_init_X4_init
set_option maxRecDepth 20000 in
theorem ggX9_init_X1_init : GoodIn wsX9_init wsX1_init := goodIn_r _ [102, 103, 2, 3, 104, 105, 106, 4, 107, 11, 12, 45, 46, 47, 48, 49, 50, 51, 52, 53, 54, 55, 56, 57, 58, 59, 60, 61, 62, 63, 64, 65, 66, 67, 68, 69, 70, 71, 72, 73, 74, 75, 76, 77, 78, 79, 145, 146, 147, 148, 149, 120, 121, 122, 123, 124, 125, 126, 127, 128, 129, 130, 131, 132, 133, 150, 151, 152, 153, 154, 155, 156, 157, 158, 159, 160, 161, 162, 163, 164, 165, 166, 167, 168, 169, 170, 171, 172, 173, 174] (by decide +kernel) (by decide +kernel)
set_option maxRecDepth 20000 in
theorem gX9_init_X1_init : GoodIn wsX9_init (wsX1_init) := ggX9_init_X1_init
theorem dX9_init_0 : decode cX9_init 0 = .ok (.aload_n 0, 1) := by decide +kernel
theorem dX9_init_1 : decode cX9_init 1 = .ok (.invokespecial 1, 3) := by decide +kernel
theorem dX9_init_4 : decode cX9_init 4 = .ok (.aload_n 0, 1) := by decide +kernel
theorem dX9_init_5 : decode cX9_init 5 = .ok (.sipush 500, 3) := by decide +kernel
theorem dX9_init_8 : decode cX9_init 8 = .ok (.newarray .int, 2) := by decide +kernel
theorem dX9_init_10 : decode cX9_init 10 = .ok (.putfield 9, 3) := by decide +kernel
theorem dX9_init_13 : decode cX9_init 13 = .ok (.aload_n 0, 1) := by decide +kernel
theorem dX9_init_14 : decode cX9_init 14 = .ok (.new 13, 3) := by decide +kernel
theorem dX9_init_17 : decode cX9_init 17 = .ok (.dup, 1) := by decide +kernel
theorem dX9_init_18 : decode cX9_init 18 = .ok (.invokespecial 15, 3) := by decide +kernel
theorem dX9_init_21 : decode cX9_init 21 = .ok (.putfield 16, 3) := by decide +kernel
theorem dX9_init_24 : decode cX9_init 24 = .ok (.aload_n 0, 1) := by decide +kernel
theorem dX9_init_25 : decode cX9_init 25 = .ok (.new 20, 3) := by decide +kernel
theorem dX9_init_28 : decode cX9_init 28 = .ok (.dup, 1) := by decide +kernel
theorem dX9_init_29 : decode cX9_init 29 = .ok (.invokespecial 22, 3) := by decide +kernel
theorem dX9_init_32 : decode cX9_init 32 = .ok (.putfield 23, 3) := by decide +kernel
theorem dX9_init_35 : decode cX9_init 35 = .ok (.aload_n 0, 1) := by decide +kernel
theorem dX9_init_36 : decode cX9_init 36 = .ok (.new 20, 3) := by decide +kernel
theorem dX9_init_39 : decode cX9_init 39 = .ok (.dup, 1) := by decide +kernel
theorem dX9_init_40 : decode cX9_init 40 = .ok (.invokespecial 22, 3) := by decide +kernel
theorem dX9_init_43 : decode cX9_init 43 = .ok (.putfield 27, 3) := by decide +kernel
theorem dX9_init_46 : decode cX9_init 46 = .ok (.aload_n 0, 1) := by decide +kernel
theorem dX9_init_47 : decode cX9_init 47 = .ok (.new 30, 3) := by decide +kernel
theorem dX9_init_50 : decode cX9_init 50 = .ok (.dup, 1) := by decide +kernel
theorem dX9_init_51 : decode cX9_init 51 = .ok (.aload_n 0, 1) := by decide +kernel
theorem dX9_init_52 : decode cX9_init 52 = .ok (.getfield 27, 3) := by decide +kernel
theorem dX9_init_55 : decode cX9_init 55 = .ok (.invokespecial 32, 3) := by decide +kernel
theorem dX9_init_58 : decode cX9_init 58 = .ok (.putfield 35, 3) := by decide +kernel
theorem dX9_init_61 : decode cX9_init 61 = .ok (.aload_n 0, 1) := by decide +kernel
theorem dX9_init_62 : decode cX9_init 62 = .ok (.new 39, 3) := by decide +kernel
theorem dX9_init_65 : decode cX9_init 65 = .ok (.dup, 1) := by decide +kernel
theorem dX9_init_66 : decode cX9_init 66 = .ok (.invokespecial 41, 3) := by decide +kernel
theorem dX9_init_69 : decode cX9_init 69 = .ok (.putfield 42, 3) := by decide +kernel
theorem dX9_init_72 : decode cX9_init 72 = .ok (.aload_n 0, 1) := by decide +kernel
theorem dX9_init_73 : decode cX9_init 73 = .ok (.iconst 0, 1) := by decide +kernel
theorem dX9_init_74 : decode cX9_init 74 = .ok (.putfield 46, 3) := by decide +kernel
theorem dX9_init_77 : decode cX9_init 77 = .ok (.aload_n 0, 1) := by decide +kernel
theorem dX9_init_78 : decode cX9_init 78 = .ok (.iconst 0, 1) := by decide +kernel
theorem dX9_init_79 : decode cX9_init 79 = .ok (.putfield 50, 3) := by decide +kernel
theorem dX9_init_82 : decode cX9_init 82 = .ok (.return_, 1) := by decide +kernel
set_option maxRecDepth 20000 in
theorem ggX9_append_X9_appendWord : GoodIn wsX9_append wsX9_appendWord := goodIn_ca (goodIn_r _ [6, 7, 1, 8, 9, 5, 10, 11, 12, 13, 14, 15, 16, 17, 18] (by decide +kernel) (by decide +kernel)) (goodIn_sub (fun _ h => List.mem_cons_of_mem _ (List.mem_append_right _ h)) (by decide +kernel))
set_option maxRecDepth 20000 in
theorem gX9_append_X9_appendWord : GoodIn wsX9_append (wsV RX9 54 RX9 yX9_appendWord wsX9_appendWord) := goodIn_app (goodIn_of _ (by decide +kernel)) ggX9_append_X9_appendWord
theorem dX9_append_0 : decode cX9_append 0 = .ok (.aload_n 0, 1) := by decide +kernel
theorem dX9_append_1 : decode cX9_append 1 = .ok (.getfield 46, 3) := by decide +kernel
theorem dX9_append_4 : decode cX9_append 4 = .ok (.bipush 20, 2) := by decide +kernel
theorem dX9_append_6 : decode cX9_append 6 = .ok (.iadd, 1) := by decide +kernel
theorem dX9_append_7 : decode cX9_append 7 = .ok (.sipush 500, 3) := by decide +kernel
theorem dX9_append_10 : decode cX9_append 10 = .ok (.if_icmp .le 5, 3) := by decide +kernel
theorem dX9_append_13 : decode cX9_append 13 = .ok (.iconst (-1), 1) := by decide +kernel
theorem dX9_append_14 : decode cX9_append 14 = .ok (.ireturn, 1) := by decide +kernel
theorem dX9_append_15 : decode cX9_append 15 = .ok (.aload_n 0, 1) := by decide +kernel
theorem dX9_append_16 : decode cX9_append 16 = .ok (.iload_n 1, 1) := by decide +kernel
theorem dX9_append_17 : decode cX9_append 17 = .ok (.invokevirtual 54, 3) := by decide +kernel
theorem dX9_append_20 : decode cX9_append 20 = .ok (.aload_n 0, 1) := by decide +kernel
theorem dX9_append_21 : decode cX9_append 21 = .ok (.iload_n 2, 1) := by decide +kernel
theorem dX9_append_22 : decode cX9_append 22 = .ok (.invokevirtual 54, 3) := by decide +kernel
theorem dX9_append_25 : decode cX9_append 25 = .ok (.aload_n 0, 1) := by decide +kernel
theorem dX9_append_26 : decode cX9_append 26 = .ok (.iload_n 3, 1) := by decide +kernel
theorem dX9_append_27 : decode cX9_append 27 = .ok (.invokevirtual 54, 3) := by decide +kernel
theorem dX9_append_30 : decode cX9_append 30 = .ok (.aload_n 0, 1) := by decide +kernel
theorem dX9_append_31 : decode cX9_append 31 = .ok (.iload 4, 2) := by decide +kernel
theorem dX9_append_33 : decode cX9_append 33 = .ok (.invokevirtual 54, 3) := by decide +kernel
theorem dX9_append_36 : decode cX9_append 36 = .ok (.aload_n 0, 1) := by decide +kernel
theorem dX9_append_37 : decode cX9_append 37 = .ok (.iload 5, 2) := by decide +kernel
theorem dX9_append_39 : decode cX9_append 39 = .ok (.invokevirtual 54, 3) := by decide +kernel
theorem dX9_append_42 : decode cX9_append 42 = .ok (.aload_n 0, 1) := by decide +kernel
theorem dX9_append_43 : decode cX9_append 43 = .ok (.getfield 46, 3) := by decide +kernel
theorem dX9_append_46 : decode cX9_append 46 = .ok (.ireturn, 1) := by decide +kernel
set_option maxRecDepth 20000 in
theorem ggX9_appendWord_X9_put : GoodIn wsX9_appendWord wsX9_put := goodIn_ca (goodIn_r _ [6] (by decide +kernel) (by decide +kernel)) (goodIn_sub (fun _ h => List.mem_cons_of_mem _ (List.mem_append_right _ h)) (by decide +kernel))
set_option maxRecDepth 20000 in
theorem gX9_appendWord_X9_put : GoodIn wsX9_appendWord (va_wsS RX9 58 yX9_put wsX9_put) := goodIn_app (goodIn_of _ (by decide +kernel)) ggX9_appendWord_X9_put
theorem dX9_appendWord_0 : decode cX9_appendWord 0 = .ok (.bipush 24, 2) := by decide +kernel
theorem dX9_appendWord_2 : decode cX9_appendWord 2 = .ok (.istore_n 2, 1) := by decide +kernel
theorem dX9_appendWord_3 : decode cX9_appendWord 3 = .ok (.iload_n 2, 1) := by decide +kernel
theorem dX9_appendWord_4 : decode cX9_appendWord 4 = .ok (.ifCond .lt 37, 3) := by decide +kernel
theorem dX9_appendWord_7 : decode cX9_appendWord 7 = .ok (.aload_n 0, 1) := by decide +kernel
theorem dX9_appendWord_8 : decode cX9_appendWord 8 = .ok (.getfield 9, 3) := by decide +kernel
theorem dX9_appendWord_11 : decode cX9_appendWord 11 = .ok (.aload_n 0, 1) := by decide +kernel
theorem dX9_appendWord_12 : decode cX9_appendWord 12 = .ok (.getfield 46, 3) := by decide +kernel
theorem dX9_appendWord_15 : decode cX9_appendWord 15 = .ok (.iload_n 1, 1) := by decide +kernel
theorem dX9_appendWord_16 : decode cX9_appendWord 16 = .ok (.iload_n 2, 1) := by decide +kernel
theorem dX9_appendWord_17 : decode cX9_appendWord 17 = .ok (.iushr, 1) := by decide +kernel
theorem dX9_appendWord_18 : decode cX9_appendWord 18 = .ok (.sipush 255, 3) := by decide +kernel
theorem dX9_appendWord_21 : decode cX9_appendWord 21 = .ok (.iand, 1) := by decide +kernel
theorem dX9_appendWord_22 : decode cX9_appendWord 22 = .ok (.invokestatic 58, 3) := by decide +kernel
theorem dX9_appendWord_25 : decode cX9_appendWord 25 = .ok (.aload_n 0, 1) := by decide +kernel
theorem dX9_appendWord_26 : decode cX9_appendWord 26 = .ok (.dup, 1) := by decide +kernel
theorem dX9_appendWord_27 : decode cX9_appendWord 27 = .ok (.getfield 46, 3) := by decide +kernel
theorem dX9_appendWord_30 : decode cX9_appendWord 30 = .ok (.iconst 1, 1) := by decide +kernel
theorem dX9_appendWord_31 : decode cX9_appendWord 31 = .ok (.iadd, 1) := by decide +kernel
theorem dX9_appendWord_32 : decode cX9_appendWord 32 = .ok (.putfield 46, 3) := by decide +kernel
theorem dX9_appendWord_35 : decode cX9_appendWord 35 = .ok (.iinc 2 (-8), 3) := by decide +kernel
theorem dX9_appendWord_38 : decode cX9_appendWord 38 = .ok (.goto (-35), 3) := by decide +kernel
theorem dX9_appendWord_41 : decode cX9_appendWord 41 = .ok (.return_, 1) := by decide +kernel
set_option maxRecDepth 20000 in
theorem ggX9_parseSetup_X4_read : GoodIn wsX9_parseSetup wsX4_read := goodIn_ca (goodIn_r _ [16, 17, 18, 19, 20, 21, 22, 23, 24, 25, 15, 26, 27, 28, 29, 30, 31, 32, 33, 34, 35, 36, 37, 38, 39, 40, 41, 42, 43, 44, 45, 46, 47, 48, 49, 50, 51, 52, 53, 54, 55, 56, 57, 58, 59, 60, 61, 62, 63, 64, 65, 66, 67, 68, 69, 70, 71, 72, 73, 74, 75, 76, 77, 78, 79, 80, 81, 82, 83, 84, 85, 86, 87, 88, 89, 90, 91, 92, 93, 94, 95, 96, 97, 98, 99, 100, 101, 102, 103, 104, 105, 106, 107, 108, 109, 110, 111, 112, 113, 114, 115, 116, 117, 118, 119, 120, 121, 122, 123, 124, 125, 126, 127, 128, 129, 130, 131, 132, 133, 134, 135, 136, 137, 138, 139, 140, 141, 142, 143, 144, 145, 146, 147, 148, 149, 150, 151, 152, 153, 154, 155, 156, 157, 158, 159, 160, 161, 162, 163, 164, 165, 166, 167, 168, 169, 170, 171, 172, 173, 174, 175, 176, 177, 178, 179, 180, 181, 182, 183, 184, 185, 186, 187, 188, 189, 190, 191, 192, 193, 194, 195, 196, 197, 198, 199, 200, 201, 202, 203, 204, 205, 206, 207, 208, 209, 210, 211, 212, 213, 214, 215, 216, 217, 218, 219, 220, 221, 222, 223, 224, 225, 226, 227, 228, 229, 230, 231, 232, 233, 234, 235, 236, 237, 238, 239, 240, 241, 242, 243, 244, 245, 246, 247, 248, 249, 250, 251, 252, 253, 254, 255, 256, 257, 258, 259, 260, 261, 262, 263, 264, 265, 266, 267, 268, 269, 270, 271, 272, 273, 274, 275, 276, 277, 278, 279, 280, 281, 282, 283, 284, 285, 286, 287, 288, 289, 290, 291, 292, 293, 294, 295, 296, 297, 298, 299, 300, 301, 302, 303, 304, 305, 306, 307, 308, 309, 310, 311, 312, 313, 314, 315, 316, 317, 318, 319, 320, 321, 322, 323, 324, 325, 326, 327, 328, 329, 330, 331, 332, 333, 334, 335, 336, 337, 338, 339, 340, 341, 342, 343, 344, 345, 346, 347, 348, 349, 350, 351, 352, 353, 354, 355, 356, 357, 358, 359, 360, 361, 362, 363, 364, 365, 366, 367, 368, 369, 370, 371, 372, 373, 374, 375, 376, 377, 378, 379, 380, 381, 382, 383, 384, 385, 386, 387, 388, 389, 390, 391, 392, 393, 394, 395, 396, 397, 398, 399, 400, 401, 402, 403, 404, 405, 406, 407, 408, 409, 410, 411, 412, 413, 414, 415, 416, 417, 418, 419, 420, 421, 422, 423, 424, 425, 426, 427, 428, 429, 430, 431, 432, 433, 434, 435, 436, 437, 438, 439, 440, 441, 442, 443, 444, 445, 446, 447, 448, 449, 450, 451, 452, 453, 454, 455, 456, 457, 458, 459, 460, 461, 462, 463, 464, 465, 466, 467, 468, 469, 470, 471, 472, 473, 474, 475, 476, 477, 478, 479, 480, 481, 482, 483, 484, 485, 486, 487, 488, 489, 490, 491, 492, 493, 494, 495, 496, 497, 498, 499, 500, 501, 502, 503, 504, 505, 506, 507, 508, 509, 510, 511, 512, 513, 514, 515, 516, 517, 518, 519, 520, 521, 522, 523, 524, 525, 526, 527, 528, 529, 575, 576, 577, 578, 579, 580, 581, 582, 583, 584, 585, 586, 587, 588, 589, 590, 591, 592, 593, 594, 595, 596, 597, 598, 599, 600, 601, 602, 603, 604, 605, 606, 607, 608, 609, 610, 611, 612, 613, 614, 615, 616, 617, 618, 619, 620, 621, 622, 623, 624, 625, 626, 627, 628, 629, 630, 631, 632, 633] (by decide +kernel) (by decide +kernel)) (goodIn_sub (fun _ h => List.mem_cons_of_mem _ (List.mem_append_right _ h)) (by decide +kernel))
set_option maxRecDepth 20000 in
theorem gX9_parseSetup_X4_read : GoodIn wsX9_parseSetup (wsV RX9 69 RX4 yX4_read wsX4_read) := goodIn_app (goodIn_of _ (by decide +kernel)) ggX9_parseSetup_X4_read
set_option maxRecDepth 20000 in
theorem ggX9_parseSetup_X8_copyFrom : GoodIn wsX9_parseSetup wsX8_copyFrom := goodIn_r _ [533, 36, 37, 38, 39, 40, 41, 42, 43, 44, 45, 46, 47, 48, 49, 534, 535, 536, 53, 537, 55, 258, 259, 538, 56, 57, 58, 59, 60, 61, 62, 63, 64, 539, 99, 540, 541, 427, 415, 428, 542, 543, 544, 545, 546, 547, 548, 72, 549, 74, 75, 76, 77, 78, 79, 80, 81, 82, 550, 551, 552, 86, 553, 479, 480, 88, 586, 587, 588, 589, 590, 591, 592, 593, 594, 595, 596, 597, 598, 599, 600, 601, 602, 603, 604, 605, 606, 607, 608, 609, 610, 611, 612, 613, 614, 615, 616, 617, 618, 619, 620, 621, 622, 623, 624] (by decide +kernel) (by decide +kernel)
set_option maxRecDepth 20000 in
theorem gX9_parseSetup_X8_copyFrom : GoodIn wsX9_parseSetup (wsV RX9 78 RX8 yX8_copyFrom wsX8_copyFrom) := goodIn_app (goodIn_of _ (by decide +kernel)) ggX9_parseSetup_X8_copyFrom
set_option maxRecDepth 20000 in
theorem ggX9_parseSetup_X1_forgetAll : GoodIn wsX9_parseSetup wsX1_forgetAll := goodIn_r _ [558, 559, 560, 561, 562, 557, 563, 564, 565, 66, 67, 68, 634, 635, 636, 637, 638] (by decide +kernel) (by decide +kernel)
set_option maxRecDepth 20000 in
theorem gX9_parseSetup_X1_forgetAll : GoodIn wsX9_parseSetup (wsV RX9 81 RX1 yX1_forgetAll wsX1_forgetAll) := goodIn_app (goodIn_of _ (by decide +kernel)) ggX9_parseSetup_X1_forgetAll
set_option maxRecDepth 20000 in
theorem ggX9_parseSetup_X8_tileCount : GoodIn wsX9_parseSetup wsX8_tileCount := goodIn_r _ [327, 36, 307, 244, 586, 587, 588, 589, 590, 591, 592, 593, 594, 595, 596, 597, 598, 599, 600, 601, 602, 603, 604, 605, 606, 607, 608, 609, 610, 611, 612] (by decide +kernel) (by decide +kernel)
set_option maxRecDepth 20000 in
theorem gX9_parseSetup_X8_tileCount : GoodIn wsX9_parseSetup (wsV RX9 84 RX8 yX8_tileCount wsX8_tileCount) := goodIn_app (goodIn_of _ (by decide +kernel)) ggX9_parseSetup_X8_tileCount
theorem dX9_parseSetup_0 : decode cX9_parseSetup 0 = .ok (.iload_n 1, 1) := by decide +kernel
theorem dX9_parseSetup_1 : decode cX9_parseSetup 1 = .ok (.ifCond .lt 11, 3) := by decide +kernel
theorem dX9_parseSetup_4 : decode cX9_parseSetup 4 = .ok (.iload_n 1, 1) := by decide +kernel
theorem dX9_parseSetup_5 : decode cX9_parseSetup 5 = .ok (.aload_n 0, 1) := by decide +kernel
theorem dX9_parseSetup_6 : decode cX9_parseSetup 6 = .ok (.getfield 46, 3) := by decide +kernel
theorem dX9_parseSetup_9 : decode cX9_parseSetup 9 = .ok (.if_icmp .le 13, 3) := by decide +kernel
theorem dX9_parseSetup_12 : decode cX9_parseSetup 12 = .ok (.new 62, 3) := by decide +kernel
theorem dX9_parseSetup_15 : decode cX9_parseSetup 15 = .ok (.dup, 1) := by decide +kernel
theorem dX9_parseSetup_16 : decode cX9_parseSetup 16 = .ok (.ldc 64, 2) := by decide +kernel
theorem dX9_parseSetup_18 : decode cX9_parseSetup 18 = .ok (.invokespecial 66, 3) := by decide +kernel
theorem dX9_parseSetup_21 : decode cX9_parseSetup 21 = .ok (.athrow, 1) := by decide +kernel
theorem dX9_parseSetup_22 : decode cX9_parseSetup 22 = .ok (.aload_n 0, 1) := by decide +kernel
theorem dX9_parseSetup_23 : decode cX9_parseSetup 23 = .ok (.iconst 0, 1) := by decide +kernel
theorem dX9_parseSetup_24 : decode cX9_parseSetup 24 = .ok (.putfield 46, 3) := by decide +kernel
theorem dX9_parseSetup_27 : decode cX9_parseSetup 27 = .ok (.aload_n 0, 1) := by decide +kernel
theorem dX9_parseSetup_28 : decode cX9_parseSetup 28 = .ok (.getfield 35, 3) := by decide +kernel
theorem dX9_parseSetup_31 : decode cX9_parseSetup 31 = .ok (.aload_n 0, 1) := by decide +kernel
theorem dX9_parseSetup_32 : decode cX9_parseSetup 32 = .ok (.getfield 9, 3) := by decide +kernel
theorem dX9_parseSetup_35 : decode cX9_parseSetup 35 = .ok (.iload_n 1, 1) := by decide +kernel
theorem dX9_parseSetup_36 : decode cX9_parseSetup 36 = .ok (.invokevirtual 69, 3) := by decide +kernel
theorem dX9_parseSetup_39 : decode cX9_parseSetup 39 = .ok (.ifCond .ne 13, 3) := by decide +kernel
theorem dX9_parseSetup_42 : decode cX9_parseSetup 42 = .ok (.new 73, 3) := by decide +kernel
theorem dX9_parseSetup_45 : decode cX9_parseSetup 45 = .ok (.dup, 1) := by decide +kernel
theorem dX9_parseSetup_46 : decode cX9_parseSetup 46 = .ok (.ldc 75, 2) := by decide +kernel
theorem dX9_parseSetup_48 : decode cX9_parseSetup 48 = .ok (.invokespecial 77, 3) := by decide +kernel
theorem dX9_parseSetup_51 : decode cX9_parseSetup 51 = .ok (.athrow, 1) := by decide +kernel
theorem dX9_parseSetup_52 : decode cX9_parseSetup 52 = .ok (.aload_n 0, 1) := by decide +kernel
theorem dX9_parseSetup_53 : decode cX9_parseSetup 53 = .ok (.getfield 23, 3) := by decide +kernel
theorem dX9_parseSetup_56 : decode cX9_parseSetup 56 = .ok (.aload_n 0, 1) := by decide +kernel
theorem dX9_parseSetup_57 : decode cX9_parseSetup 57 = .ok (.getfield 27, 3) := by decide +kernel
theorem dX9_parseSetup_60 : decode cX9_parseSetup 60 = .ok (.invokevirtual 78, 3) := by decide +kernel
theorem dX9_parseSetup_63 : decode cX9_parseSetup 63 = .ok (.aload_n 0, 1) := by decide +kernel
theorem dX9_parseSetup_64 : decode cX9_parseSetup 64 = .ok (.getfield 42, 3) := by decide +kernel
theorem dX9_parseSetup_67 : decode cX9_parseSetup 67 = .ok (.invokevirtual 81, 3) := by decide +kernel
theorem dX9_parseSetup_70 : decode cX9_parseSetup 70 = .ok (.aload_n 0, 1) := by decide +kernel
theorem dX9_parseSetup_71 : decode cX9_parseSetup 71 = .ok (.iconst 1, 1) := by decide +kernel
theorem dX9_parseSetup_72 : decode cX9_parseSetup 72 = .ok (.putfield 50, 3) := by decide +kernel
theorem dX9_parseSetup_75 : decode cX9_parseSetup 75 = .ok (.aload_n 0, 1) := by decide +kernel
theorem dX9_parseSetup_76 : decode cX9_parseSetup 76 = .ok (.getfield 23, 3) := by decide +kernel
theorem dX9_parseSetup_79 : decode cX9_parseSetup 79 = .ok (.invokevirtual 84, 3) := by decide +kernel
theorem dX9_parseSetup_82 : decode cX9_parseSetup 82 = .ok (.ireturn, 1) := by decide +kernel
theorem dX9_parseErrorCode_0 : decode cX9_parseErrorCode 0 = .ok (.aload_n 0, 1) := by decide +kernel
theorem dX9_parseErrorCode_1 : decode cX9_parseErrorCode 1 = .ok (.getfield 35, 3) := by decide +kernel
theorem dX9_parseErrorCode_4 : decode cX9_parseErrorCode 4 = .ok (.getfield 88, 3) := by decide +kernel
theorem dX9_parseErrorCode_7 : decode cX9_parseErrorCode 7 = .ok (.ireturn, 1) := by decide +kernel
theorem dX9_parseErrorPosition_0 : decode cX9_parseErrorPosition 0 = .ok (.aload_n 0, 1) := by decide +kernel
theorem dX9_parseErrorPosition_1 : decode cX9_parseErrorPosition 1 = .ok (.getfield 35, 3) := by decide +kernel
theorem dX9_parseErrorPosition_4 : decode cX9_parseErrorPosition 4 = .ok (.getfield 91, 3) := by decide +kernel
theorem dX9_parseErrorPosition_7 : decode cX9_parseErrorPosition 7 = .ok (.ireturn, 1) := by decide +kernel
theorem dX9_bufferLength_0 : decode cX9_bufferLength 0 = .ok (.aload_n 0, 1) := by decide +kernel
theorem dX9_bufferLength_1 : decode cX9_bufferLength 1 = .ok (.getfield 46, 3) := by decide +kernel
theorem dX9_bufferLength_4 : decode cX9_bufferLength 4 = .ok (.ireturn, 1) := by decide +kernel
set_option maxRecDepth 20000 in
theorem ggX9_rows_X9_requireSetup : GoodIn wsX9_rows wsX9_requireSetup := goodIn_ca (goodIn_r _ [8, 9, 10, 11, 12, 13, 14, 15, 16, 17, 18, 19] (by decide +kernel) (by decide +kernel)) (goodIn_sub (fun _ h => List.mem_cons_of_mem _ (List.mem_append_right _ h)) (by decide +kernel))
set_option maxRecDepth 20000 in
theorem gX9_rows_X9_requireSetup : GoodIn wsX9_rows (wsV RX9 94 RX9 yX9_requireSetup wsX9_requireSetup) := goodIn_app (goodIn_of _ (by decide +kernel)) ggX9_rows_X9_requireSetup
theorem dX9_rows_0 : decode cX9_rows 0 = .ok (.aload_n 0, 1) := by decide +kernel
theorem dX9_rows_1 : decode cX9_rows 1 = .ok (.invokevirtual 94, 3) := by decide +kernel
theorem dX9_rows_4 : decode cX9_rows 4 = .ok (.aload_n 0, 1) := by decide +kernel
theorem dX9_rows_5 : decode cX9_rows 5 = .ok (.getfield 23, 3) := by decide +kernel
theorem dX9_rows_8 : decode cX9_rows 8 = .ok (.getfield 97, 3) := by decide +kernel
theorem dX9_rows_11 : decode cX9_rows 11 = .ok (.getfield 101, 3) := by decide +kernel
theorem dX9_rows_14 : decode cX9_rows 14 = .ok (.ireturn, 1) := by decide +kernel
set_option maxRecDepth 20000 in
theorem ggX9_columns_X9_requireSetup : GoodIn wsX9_columns wsX9_requireSetup := goodIn_ca (goodIn_r _ [8, 9, 10, 11, 12, 13, 14, 15, 16, 17, 18, 19] (by decide +kernel) (by decide +kernel)) (goodIn_sub (fun _ h => List.mem_cons_of_mem _ (List.mem_append_right _ h)) (by decide +kernel))
set_option maxRecDepth 20000 in
theorem gX9_columns_X9_requireSetup : GoodIn wsX9_columns (wsV RX9 94 RX9 yX9_requireSetup wsX9_requireSetup) := goodIn_app (goodIn_of _ (by decide +kernel)) ggX9_columns_X9_requireSetup
theorem dX9_columns_0 : decode cX9_columns 0 = .ok (.aload_n 0, 1) := by decide +kernel
theorem dX9_columns_1 : decode cX9_columns 1 = .ok (.invokevirtual 94, 3) := by decide +kernel
theorem dX9_columns_4 : decode cX9_columns 4 = .ok (.aload_n 0, 1) := by decide +kernel
theorem dX9_columns_5 : decode cX9_columns 5 = .ok (.getfield 23, 3) := by decide +kernel
theorem dX9_columns_8 : decode cX9_columns 8 = .ok (.getfield 97, 3) := by decide +kernel
theorem dX9_columns_11 : decode cX9_columns 11 = .ok (.getfield 106, 3) := by decide +kernel
theorem dX9_columns_14 : decode cX9_columns 14 = .ok (.ireturn, 1) := by decide +kernel
set_option maxRecDepth 20000 in
theorem ggX9_minutesPerRow_X9_requireSetup : GoodIn wsX9_minutesPerRow wsX9_requireSetup := goodIn_ca (goodIn_r _ [8, 9, 10, 11, 12, 13, 14, 15, 16, 17, 18, 19] (by decide +kernel) (by decide +kernel)) (goodIn_sub (fun _ h => List.mem_cons_of_mem _ (List.mem_append_right _ h)) (by decide +kernel))
set_option maxRecDepth 20000 in
theorem gX9_minutesPerRow_X9_requireSetup : GoodIn wsX9_minutesPerRow (wsV RX9 94 RX9 yX9_requireSetup wsX9_requireSetup) := goodIn_app (goodIn_of _ (by decide +kernel)) ggX9_minutesPerRow_X9_requireSetup
theorem dX9_minutesPerRow_0 : decode cX9_minutesPerRow 0 = .ok (.aload_n 0, 1) := by decide +kernel
theorem dX9_minutesPerRow_1 : decode cX9_minutesPerRow 1 = .ok (.invokevirtual 94, 3) := by decide +kernel
theorem dX9_minutesPerRow_4 : decode cX9_minutesPerRow 4 = .ok (.aload_n 0, 1) := by decide +kernel
theorem dX9_minutesPerRow_5 : decode cX9_minutesPerRow 5 = .ok (.getfield 23, 3) := by decide +kernel
theorem dX9_minutesPerRow_8 : decode cX9_minutesPerRow 8 = .ok (.getfield 97, 3) := by decide +kernel
theorem dX9_minutesPerRow_11 : decode cX9_minutesPerRow 11 = .ok (.getfield 109, 3) := by decide +kernel
theorem dX9_minutesPerRow_14 : decode cX9_minutesPerRow 14 = .ok (.ireturn, 1) := by decide +kernel
set_option maxRecDepth 20000 in
theorem ggX9_night_X9_requireSetup : GoodIn wsX9_night wsX9_requireSetup := goodIn_ca (goodIn_r _ [7, 8, 9, 10, 11, 12, 13, 14, 15, 16, 17, 18] (by decide +kernel) (by decide +kernel)) (goodIn_sub (fun _ h => List.mem_cons_of_mem _ (List.mem_append_right _ h)) (by decide +kernel))
set_option maxRecDepth 20000 in
theorem gX9_night_X9_requireSetup : GoodIn wsX9_night (wsV RX9 94 RX9 yX9_requireSetup wsX9_requireSetup) := goodIn_app (goodIn_of _ (by decide +kernel)) ggX9_night_X9_requireSetup
theorem dX9_night_0 : decode cX9_night 0 = .ok (.aload_n 0, 1) := by decide +kernel
theorem dX9_night_1 : decode cX9_night 1 = .ok (.invokevirtual 94, 3) := by decide +kernel
theorem dX9_night_4 : decode cX9_night 4 = .ok (.aload_n 0, 1) := by decide +kernel
theorem dX9_night_5 : decode cX9_night 5 = .ok (.getfield 23, 3) := by decide +kernel
theorem dX9_night_8 : decode cX9_night 8 = .ok (.getfield 112, 3) := by decide +kernel
theorem dX9_night_11 : decode cX9_night 11 = .ok (.ireturn, 1) := by decide +kernel
set_option maxRecDepth 20000 in
theorem ggX9_minute_X9_requireSetup : GoodIn wsX9_minute wsX9_requireSetup := goodIn_ca (goodIn_r _ [7, 8, 9, 10, 11, 12, 13, 14, 15, 16, 17, 18] (by decide +kernel) (by decide +kernel)) (goodIn_sub (fun _ h => List.mem_cons_of_mem _ (List.mem_append_right _ h)) (by decide +kernel))
set_option maxRecDepth 20000 in
theorem gX9_minute_X9_requireSetup : GoodIn wsX9_minute (wsV RX9 94 RX9 yX9_requireSetup wsX9_requireSetup) := goodIn_app (goodIn_of _ (by decide +kernel)) ggX9_minute_X9_requireSetup
theorem dX9_minute_0 : decode cX9_minute 0 = .ok (.aload_n 0, 1) := by decide +kernel
theorem dX9_minute_1 : decode cX9_minute 1 = .ok (.invokevirtual 94, 3) := by decide +kernel
theorem dX9_minute_4 : decode cX9_minute 4 = .ok (.aload_n 0, 1) := by decide +kernel
theorem dX9_minute_5 : decode cX9_minute 5 = .ok (.getfield 23, 3) := by decide +kernel
theorem dX9_minute_8 : decode cX9_minute 8 = .ok (.getfield 115, 3) := by decide +kernel
theorem dX9_minute_11 : decode cX9_minute 11 = .ok (.ireturn, 1) := by decide +kernel
set_option maxRecDepth 20000 in
theorem ggX9_brightness_X9_requireSetup : GoodIn wsX9_brightness wsX9_requireSetup := goodIn_ca (goodIn_r _ [6, 7, 8, 9, 16, 17, 18, 19, 20, 21, 22, 23] (by decide +kernel) (by decide +kernel)) (goodIn_sub (fun _ h => List.mem_cons_of_mem _ (List.mem_append_right _ h)) (by decide +kernel))
set_option maxRecDepth 20000 in
theorem gX9_brightness_X9_requireSetup : GoodIn wsX9_brightness (wsV RX9 94 RX9 yX9_requireSetup wsX9_requireSetup) := goodIn_app (goodIn_of _ (by decide +kernel)) ggX9_brightness_X9_requireSetup
set_option maxRecDepth 20000 in
theorem ggX9_brightness_X8_moonlight : GoodIn wsX9_brightness wsX8_moonlight := goodIn_r _ [14, 15, 24, 25, 26, 27, 28, 29, 30, 31, 32, 33, 34, 35, 36, 37] (by decide +kernel) (by decide +kernel)
set_option maxRecDepth 20000 in
theorem gX9_brightness_X8_moonlight : GoodIn wsX9_brightness (wsV RX9 118 RX8 yX8_moonlight wsX8_moonlight) := goodIn_app (goodIn_of _ (by decide +kernel)) ggX9_brightness_X8_moonlight
theorem dX9_brightness_0 : decode cX9_brightness 0 = .ok (.aload_n 0, 1) := by decide +kernel
theorem dX9_brightness_1 : decode cX9_brightness 1 = .ok (.invokevirtual 94, 3) := by decide +kernel
theorem dX9_brightness_4 : decode cX9_brightness 4 = .ok (.aload_n 0, 1) := by decide +kernel
theorem dX9_brightness_5 : decode cX9_brightness 5 = .ok (.getfield 23, 3) := by decide +kernel
theorem dX9_brightness_8 : decode cX9_brightness 8 = .ok (.invokevirtual 118, 3) := by decide +kernel
theorem dX9_brightness_11 : decode cX9_brightness 11 = .ok (.ireturn, 1) := by decide +kernel
set_option maxRecDepth 20000 in
theorem ggX9_moonRow_X9_requireSetup : GoodIn wsX9_moonRow wsX9_requireSetup := goodIn_ca (goodIn_r _ [6, 7, 8, 9, 18, 19, 20, 21, 22, 23, 24, 25] (by decide +kernel) (by decide +kernel)) (goodIn_sub (fun _ h => List.mem_cons_of_mem _ (List.mem_append_right _ h)) (by decide +kernel))
set_option maxRecDepth 20000 in
theorem gX9_moonRow_X9_requireSetup : GoodIn wsX9_moonRow (wsV RX9 94 RX9 yX9_requireSetup wsX9_requireSetup) := goodIn_app (goodIn_of _ (by decide +kernel)) ggX9_moonRow_X9_requireSetup
set_option maxRecDepth 20000 in
theorem ggX9_moonRow_X8_rowInMoonlight : GoodIn wsX9_moonRow wsX8_rowInMoonlight := goodIn_r _ [14, 15, 16, 17, 26, 27, 28, 29, 30, 31, 32, 33, 34, 35, 36, 37, 38, 39, 40, 41, 42, 43, 44, 45, 46, 47, 48, 49, 50, 51, 52] (by decide +kernel) (by decide +kernel)
set_option maxRecDepth 20000 in
theorem gX9_moonRow_X8_rowInMoonlight : GoodIn wsX9_moonRow (wsV RX9 121 RX8 yX8_rowInMoonlight wsX8_rowInMoonlight) := goodIn_app (goodIn_of _ (by decide +kernel)) ggX9_moonRow_X8_rowInMoonlight
theorem dX9_moonRow_0 : decode cX9_moonRow 0 = .ok (.aload_n 0, 1) := by decide +kernel
theorem dX9_moonRow_1 : decode cX9_moonRow 1 = .ok (.invokevirtual 94, 3) := by decide +kernel
theorem dX9_moonRow_4 : decode cX9_moonRow 4 = .ok (.aload_n 0, 1) := by decide +kernel
theorem dX9_moonRow_5 : decode cX9_moonRow 5 = .ok (.getfield 23, 3) := by decide +kernel
theorem dX9_moonRow_8 : decode cX9_moonRow 8 = .ok (.invokevirtual 121, 3) := by decide +kernel
theorem dX9_moonRow_11 : decode cX9_moonRow 11 = .ok (.ireturn, 1) := by decide +kernel
set_option maxRecDepth 20000 in
theorem ggX9_moonShines_X9_requireSetup : GoodIn wsX9_moonShines wsX9_requireSetup := goodIn_ca (goodIn_r _ [6, 7, 8, 9, 30, 31, 32, 33, 34, 35, 36, 37] (by decide +kernel) (by decide +kernel)) (goodIn_sub (fun _ h => List.mem_cons_of_mem _ (List.mem_append_left _ (List.mem_append_right _ h))) (by decide +kernel))
set_option maxRecDepth 20000 in
theorem gX9_moonShines_X9_requireSetup : GoodIn wsX9_moonShines (wsV RX9 94 RX9 yX9_requireSetup wsX9_requireSetup) := goodIn_app (goodIn_of _ (by decide +kernel)) ggX9_moonShines_X9_requireSetup
set_option maxRecDepth 20000 in
theorem ggX9_moonShines_X8_isMoonOut : GoodIn wsX9_moonShines wsX8_isMoonOut := goodIn_ca (goodIn_r _ [14, 15, 16, 17, 18, 19, 13, 20, 21, 22, 23, 24, 25, 26, 27, 28, 29, 38, 39, 40, 41, 42, 43, 44, 45, 46, 47, 48, 49, 50, 51, 52, 53, 54, 55, 56, 57, 58, 59, 60, 61, 62, 63, 64] (by decide +kernel) (by decide +kernel)) (goodIn_sub (fun _ h => List.mem_cons_of_mem _ (List.mem_append_right _ h)) (by decide +kernel))
set_option maxRecDepth 20000 in
theorem gX9_moonShines_X8_isMoonOut : GoodIn wsX9_moonShines (wsV RX9 124 RX8 yX8_isMoonOut wsX8_isMoonOut) := goodIn_app (goodIn_of _ (by decide +kernel)) ggX9_moonShines_X8_isMoonOut
theorem dX9_moonShines_0 : decode cX9_moonShines 0 = .ok (.aload_n 0, 1) := by decide +kernel
theorem dX9_moonShines_1 : decode cX9_moonShines 1 = .ok (.invokevirtual 94, 3) := by decide +kernel
theorem dX9_moonShines_4 : decode cX9_moonShines 4 = .ok (.aload_n 0, 1) := by decide +kernel
theorem dX9_moonShines_5 : decode cX9_moonShines 5 = .ok (.getfield 23, 3) := by decide +kernel
theorem dX9_moonShines_8 : decode cX9_moonShines 8 = .ok (.invokevirtual 124, 3) := by decide +kernel
theorem dX9_moonShines_11 : decode cX9_moonShines 11 = .ok (.ireturn, 1) := by decide +kernel
set_option maxRecDepth 20000 in
theorem ggX9_isLit_X9_requireSetup : GoodIn wsX9_isLit wsX9_requireSetup := goodIn_ca (goodIn_r _ [6, 7, 8, 9, 66, 67, 68, 69, 70, 71, 72, 73] (by decide +kernel) (by decide +kernel)) (goodIn_sub (fun _ h => List.mem_cons_of_mem _ (List.mem_append_left _ (List.mem_append_left _ (List.mem_append_right _ h)))) (by decide +kernel))
set_option maxRecDepth 20000 in
theorem gX9_isLit_X9_requireSetup : GoodIn wsX9_isLit (wsV RX9 94 RX9 yX9_requireSetup wsX9_requireSetup) := goodIn_app (goodIn_of _ (by decide +kernel)) ggX9_isLit_X9_requireSetup
set_option maxRecDepth 20000 in
theorem ggX9_isLit_X9_requireTile : GoodIn wsX9_isLit wsX9_requireTile := goodIn_ca (goodIn_r _ [13, 14, 15, 1, 16, 17, 18, 19, 20, 21, 22, 23, 66, 67, 68, 69, 70, 71, 72, 73, 74, 75, 76, 77, 78, 79, 80, 81, 82, 83, 84, 85, 86, 87, 88, 89, 90, 91, 92, 93, 94, 95, 96, 97, 98, 99, 100] (by decide +kernel) (by decide +kernel)) (goodIn_sub (fun _ h => List.mem_cons_of_mem _ (List.mem_append_left _ (List.mem_append_right _ h))) (by decide +kernel))
set_option maxRecDepth 20000 in
theorem gX9_isLit_X9_requireTile : GoodIn wsX9_isLit (wsV RX9 128 RX9 yX9_requireTile wsX9_requireTile) := goodIn_app (goodIn_of _ (by decide +kernel)) ggX9_isLit_X9_requireTile
set_option maxRecDepth 20000 in
theorem ggX9_isLit_X8_isTileLit : GoodIn wsX9_isLit wsX8_isTileLit := goodIn_ca (goodIn_r _ [27, 28, 29, 30, 19, 31, 21, 32, 33, 34, 35, 36, 37, 38, 39, 40, 41, 42, 43, 44, 45, 46, 47, 48, 49, 50, 51, 52, 53, 54, 23, 55, 56, 57, 58, 59, 60, 61, 62, 63, 64, 5, 65, 74, 75, 76, 77, 78, 79, 80, 81, 82, 83, 84, 85, 86, 87, 88, 89, 90, 91, 92, 93, 94, 95, 96, 97, 98, 99, 100] (by decide +kernel) (by decide +kernel)) (goodIn_sub (fun _ h => List.mem_cons_of_mem _ (List.mem_append_right _ h)) (by decide +kernel))
set_option maxRecDepth 20000 in
theorem gX9_isLit_X8_isTileLit : GoodIn wsX9_isLit (wsV RX9 131 RX8 yX8_isTileLit wsX8_isTileLit) := goodIn_app (goodIn_of _ (by decide +kernel)) ggX9_isLit_X8_isTileLit
theorem dX9_isLit_0 : decode cX9_isLit 0 = .ok (.aload_n 0, 1) := by decide +kernel
theorem dX9_isLit_1 : decode cX9_isLit 1 = .ok (.invokevirtual 94, 3) := by decide +kernel
theorem dX9_isLit_4 : decode cX9_isLit 4 = .ok (.aload_n 0, 1) := by decide +kernel
theorem dX9_isLit_5 : decode cX9_isLit 5 = .ok (.iload_n 1, 1) := by decide +kernel
theorem dX9_isLit_6 : decode cX9_isLit 6 = .ok (.invokevirtual 128, 3) := by decide +kernel
theorem dX9_isLit_9 : decode cX9_isLit 9 = .ok (.aload_n 0, 1) := by decide +kernel
theorem dX9_isLit_10 : decode cX9_isLit 10 = .ok (.getfield 23, 3) := by decide +kernel
theorem dX9_isLit_13 : decode cX9_isLit 13 = .ok (.iload_n 1, 1) := by decide +kernel
theorem dX9_isLit_14 : decode cX9_isLit 14 = .ok (.invokevirtual 131, 3) := by decide +kernel
theorem dX9_isLit_17 : decode cX9_isLit 17 = .ok (.ireturn, 1) := by decide +kernel
set_option maxRecDepth 20000 in
theorem ggX9_isCurtainClosed_X9_requireSetup : GoodIn wsX9_isCurtainClosed wsX9_requireSetup := goodIn_ca (goodIn_r _ [7, 8, 9, 10, 22, 23, 24, 25, 26, 27, 28, 29] (by decide +kernel) (by decide +kernel)) (goodIn_sub (fun _ h => List.mem_cons_of_mem _ (List.mem_append_left _ (List.mem_append_left _ (List.mem_append_right _ h)))) (by decide +kernel))
set_option maxRecDepth 20000 in
theorem gX9_isCurtainClosed_X9_requireSetup : GoodIn wsX9_isCurtainClosed (wsV RX9 94 RX9 yX9_requireSetup wsX9_requireSetup) := goodIn_app (goodIn_of _ (by decide +kernel)) ggX9_isCurtainClosed_X9_requireSetup
set_option maxRecDepth 20000 in
theorem ggX9_isCurtainClosed_X9_requireColumn : GoodIn wsX9_isCurtainClosed wsX9_requireColumn := goodIn_ca (goodIn_r _ [14, 15, 16, 1, 17, 18, 22, 23, 24, 25, 26, 27, 28, 29, 30, 31, 32, 33, 34, 35, 36, 37, 38, 39, 40, 41, 42, 43, 44, 45, 46, 47, 48, 49, 50, 51, 52, 53, 54, 55, 56] (by decide +kernel) (by decide +kernel)) (goodIn_sub (fun _ h => List.mem_cons_of_mem _ (List.mem_append_left _ (List.mem_append_right _ h))) (by decide +kernel))
set_option maxRecDepth 20000 in
theorem gX9_isCurtainClosed_X9_requireColumn : GoodIn wsX9_isCurtainClosed (wsV RX9 135 RX9 yX9_requireColumn wsX9_requireColumn) := goodIn_app (goodIn_of _ (by decide +kernel)) ggX9_isCurtainClosed_X9_requireColumn
set_option maxRecDepth 20000 in
theorem ggX9_isCurtainClosed_X9_at : GoodIn wsX9_isCurtainClosed wsX9_at := goodIn_ca (goodIn_r _ [21] (by decide +kernel) (by decide +kernel)) (goodIn_sub (fun _ h => List.mem_cons_of_mem _ (List.mem_append_right _ h)) (by decide +kernel))
set_option maxRecDepth 20000 in
theorem gX9_isCurtainClosed_X9_at : GoodIn wsX9_isCurtainClosed (va_wsS RX9 141 yX9_at wsX9_at) := goodIn_app (goodIn_of _ (by decide +kernel)) ggX9_isCurtainClosed_X9_at
theorem dX9_isCurtainClosed_0 : decode cX9_isCurtainClosed 0 = .ok (.aload_n 0, 1) := by decide +kernel
theorem dX9_isCurtainClosed_1 : decode cX9_isCurtainClosed 1 = .ok (.invokevirtual 94, 3) := by decide +kernel
theorem dX9_isCurtainClosed_4 : decode cX9_isCurtainClosed 4 = .ok (.aload_n 0, 1) := by decide +kernel
theorem dX9_isCurtainClosed_5 : decode cX9_isCurtainClosed 5 = .ok (.iload_n 1, 1) := by decide +kernel
theorem dX9_isCurtainClosed_6 : decode cX9_isCurtainClosed 6 = .ok (.invokevirtual 135, 3) := by decide +kernel
theorem dX9_isCurtainClosed_9 : decode cX9_isCurtainClosed 9 = .ok (.aload_n 0, 1) := by decide +kernel
theorem dX9_isCurtainClosed_10 : decode cX9_isCurtainClosed 10 = .ok (.getfield 23, 3) := by decide +kernel
theorem dX9_isCurtainClosed_13 : decode cX9_isCurtainClosed 13 = .ok (.getfield 138, 3) := by decide +kernel
theorem dX9_isCurtainClosed_16 : decode cX9_isCurtainClosed 16 = .ok (.iload_n 1, 1) := by decide +kernel
theorem dX9_isCurtainClosed_17 : decode cX9_isCurtainClosed 17 = .ok (.invokestatic 141, 3) := by decide +kernel
theorem dX9_isCurtainClosed_20 : decode cX9_isCurtainClosed 20 = .ok (.ifCond .le 7, 3) := by decide +kernel
theorem dX9_isCurtainClosed_23 : decode cX9_isCurtainClosed 23 = .ok (.iconst 1, 1) := by decide +kernel
theorem dX9_isCurtainClosed_24 : decode cX9_isCurtainClosed 24 = .ok (.goto 4, 3) := by decide +kernel
theorem dX9_isCurtainClosed_27 : decode cX9_isCurtainClosed 27 = .ok (.iconst 0, 1) := by decide +kernel
theorem dX9_isCurtainClosed_28 : decode cX9_isCurtainClosed 28 = .ok (.ireturn, 1) := by decide +kernel
set_option maxRecDepth 20000 in
theorem ggX9_draughtPeriod_X9_requireSetup : GoodIn wsX9_draughtPeriod wsX9_requireSetup := goodIn_ca (goodIn_r _ [8, 9, 10, 11, 22, 23, 24, 25, 26, 27, 28, 29] (by decide +kernel) (by decide +kernel)) (goodIn_sub (fun _ h => List.mem_cons_of_mem _ (List.mem_append_left _ (List.mem_append_left _ (List.mem_append_right _ h)))) (by decide +kernel))
set_option maxRecDepth 20000 in
theorem gX9_draughtPeriod_X9_requireSetup : GoodIn wsX9_draughtPeriod (wsV RX9 94 RX9 yX9_requireSetup wsX9_requireSetup) := goodIn_app (goodIn_of _ (by decide +kernel)) ggX9_draughtPeriod_X9_requireSetup
set_option maxRecDepth 20000 in
theorem ggX9_draughtPeriod_X9_requireColumn : GoodIn wsX9_draughtPeriod wsX9_requireColumn := goodIn_ca (goodIn_r _ [15, 16, 17, 1, 2, 18, 22, 23, 24, 25, 26, 27, 28, 29, 30, 31, 32, 33, 34, 35, 36, 37, 38, 39, 40, 41, 42, 43, 44, 45, 46, 47, 48, 49, 50, 51, 52, 53, 54, 55, 56] (by decide +kernel) (by decide +kernel)) (goodIn_sub (fun _ h => List.mem_cons_of_mem _ (List.mem_append_left _ (List.mem_append_right _ h))) (by decide +kernel))
set_option maxRecDepth 20000 in
theorem gX9_draughtPeriod_X9_requireColumn : GoodIn wsX9_draughtPeriod (wsV RX9 135 RX9 yX9_requireColumn wsX9_requireColumn) := goodIn_app (goodIn_of _ (by decide +kernel)) ggX9_draughtPeriod_X9_requireColumn
set_option maxRecDepth 20000 in
theorem ggX9_draughtPeriod_X9_at : GoodIn wsX9_draughtPeriod wsX9_at := goodIn_ca (goodIn_r _ [21] (by decide +kernel) (by decide +kernel)) (goodIn_sub (fun _ h => List.mem_cons_of_mem _ (List.mem_append_right _ h)) (by decide +kernel))
set_option maxRecDepth 20000 in
theorem gX9_draughtPeriod_X9_at : GoodIn wsX9_draughtPeriod (va_wsS RX9 141 yX9_at wsX9_at) := goodIn_app (goodIn_of _ (by decide +kernel)) ggX9_draughtPeriod_X9_at
theorem dX9_draughtPeriod_0 : decode cX9_draughtPeriod 0 = .ok (.aload_n 0, 1) := by decide +kernel
theorem dX9_draughtPeriod_1 : decode cX9_draughtPeriod 1 = .ok (.invokevirtual 94, 3) := by decide +kernel
theorem dX9_draughtPeriod_4 : decode cX9_draughtPeriod 4 = .ok (.aload_n 0, 1) := by decide +kernel
theorem dX9_draughtPeriod_5 : decode cX9_draughtPeriod 5 = .ok (.iload_n 1, 1) := by decide +kernel
theorem dX9_draughtPeriod_6 : decode cX9_draughtPeriod 6 = .ok (.invokevirtual 135, 3) := by decide +kernel
theorem dX9_draughtPeriod_9 : decode cX9_draughtPeriod 9 = .ok (.aload_n 0, 1) := by decide +kernel
theorem dX9_draughtPeriod_10 : decode cX9_draughtPeriod 10 = .ok (.getfield 23, 3) := by decide +kernel
theorem dX9_draughtPeriod_13 : decode cX9_draughtPeriod 13 = .ok (.getfield 97, 3) := by decide +kernel
theorem dX9_draughtPeriod_16 : decode cX9_draughtPeriod 16 = .ok (.getfield 145, 3) := by decide +kernel
theorem dX9_draughtPeriod_19 : decode cX9_draughtPeriod 19 = .ok (.iload_n 1, 1) := by decide +kernel
theorem dX9_draughtPeriod_20 : decode cX9_draughtPeriod 20 = .ok (.invokestatic 141, 3) := by decide +kernel
theorem dX9_draughtPeriod_23 : decode cX9_draughtPeriod 23 = .ok (.ireturn, 1) := by decide +kernel
set_option maxRecDepth 20000 in
theorem ggX9_minutesUntilLit_X9_requireSetup : GoodIn wsX9_minutesUntilLit wsX9_requireSetup := goodIn_ca (goodIn_r _ [7, 8, 9, 10, 247, 248, 249, 250, 251, 252, 253, 254] (by decide +kernel) (by decide +kernel)) (goodIn_sub (fun _ h => List.mem_cons_of_mem _ (List.mem_append_left _ (List.mem_append_left _ (List.mem_append_right _ h)))) (by decide +kernel))
set_option maxRecDepth 20000 in
theorem gX9_minutesUntilLit_X9_requireSetup : GoodIn wsX9_minutesUntilLit (wsV RX9 94 RX9 yX9_requireSetup wsX9_requireSetup) := goodIn_app (goodIn_of _ (by decide +kernel)) ggX9_minutesUntilLit_X9_requireSetup
set_option maxRecDepth 20000 in
theorem ggX9_minutesUntilLit_X9_requireTile : GoodIn wsX9_minutesUntilLit wsX9_requireTile := goodIn_ca (goodIn_r _ [14, 15, 16, 2, 17, 18, 19, 20, 21, 22, 23, 24, 247, 248, 249, 250, 251, 252, 253, 254, 255, 256, 257, 258, 259, 260, 261, 262, 263, 264, 265, 266, 267, 268, 269, 270, 271, 272, 273, 274, 275, 276, 277, 278, 279, 280, 281] (by decide +kernel) (by decide +kernel)) (goodIn_sub (fun _ h => List.mem_cons_of_mem _ (List.mem_append_left _ (List.mem_append_right _ h))) (by decide +kernel))
set_option maxRecDepth 20000 in
theorem gX9_minutesUntilLit_X9_requireTile : GoodIn wsX9_minutesUntilLit (wsV RX9 128 RX9 yX9_requireTile wsX9_requireTile) := goodIn_app (goodIn_of _ (by decide +kernel)) ggX9_minutesUntilLit_X9_requireTile
set_option maxRecDepth 20000 in
theorem ggX9_minutesUntilLit_X8_copyFrom : GoodIn wsX9_minutesUntilLit wsX8_copyFrom := goodIn_r _ [28, 22, 29, 30, 31, 32, 33, 34, 35, 36, 37, 38, 39, 40, 41, 42, 43, 44, 45, 46, 47, 48, 49, 50, 51, 52, 53, 54, 55, 56, 57, 58, 59, 60, 6, 61, 62, 63, 64, 65, 66, 67, 68, 69, 70, 71, 72, 73, 74, 75, 76, 77, 78, 79, 80, 81, 82, 83, 84, 85, 86, 87, 88, 89, 90, 91, 255, 256, 257, 258, 259, 260, 261, 262, 263, 264, 265, 266, 267, 268, 269, 270, 271, 272, 273, 274, 275, 276, 277, 278, 279, 280, 281, 282, 283, 284, 285, 286, 287, 288, 289, 290, 291, 292, 293] (by decide +kernel) (by decide +kernel)
set_option maxRecDepth 20000 in
theorem gX9_minutesUntilLit_X8_copyFrom : GoodIn wsX9_minutesUntilLit (wsV RX9 78 RX8 yX8_copyFrom wsX8_copyFrom) := goodIn_app (goodIn_of _ (by decide +kernel)) ggX9_minutesUntilLit_X8_copyFrom
set_option maxRecDepth 20000 in
theorem ggX9_minutesUntilLit_X8_isTileLit : GoodIn wsX9_minutesUntilLit wsX8_isTileLit := goodIn_ca (goodIn_r _ [95, 96, 97, 98, 20, 99, 22, 38, 100, 101, 102, 103, 37, 104, 105, 106, 45, 107, 58, 48, 49, 108, 109, 110, 111, 31, 112, 113, 114, 115, 24, 116, 117, 118, 119, 120, 121, 122, 123, 124, 125, 6, 126, 255, 256, 257, 258, 259, 260, 261, 262, 263, 264, 265, 266, 267, 268, 269, 270, 271, 272, 273, 274, 275, 276, 277, 278, 279, 280, 281] (by decide +kernel) (by decide +kernel)) (goodIn_sub (fun _ h => List.mem_cons_of_mem _ (List.mem_append_right _ h)) (by decide +kernel))
set_option maxRecDepth 20000 in
theorem gX9_minutesUntilLit_X8_isTileLit : GoodIn wsX9_minutesUntilLit (wsV RX9 131 RX8 yX8_isTileLit wsX8_isTileLit) := goodIn_app (goodIn_of _ (by decide +kernel)) ggX9_minutesUntilLit_X8_isTileLit
set_option maxRecDepth 20000 in
theorem ggX9_minutesUntilLit_X8_passMinute : GoodIn wsX9_minutesUntilLit wsX8_passMinute := goodIn_ca (goodIn_r _ [130, 34, 40, 29, 131, 132, 38, 133, 134, 135, 20, 136, 22, 137, 138, 41, 33, 125, 6, 126, 139, 140, 141, 142, 24, 23, 143, 144, 145, 146, 147, 148, 149, 150, 151, 152, 153, 154, 73, 155, 83, 78, 79, 156, 157, 158, 159, 160, 161, 64, 162, 112, 113, 114, 115, 121, 122, 123, 124, 163, 164, 165, 166, 167, 168, 169, 170, 171, 172, 36, 173, 63, 65, 96, 97, 98, 99, 100, 101, 102, 103, 37, 104, 105, 106, 45, 107, 58, 48, 49, 174, 175, 176, 177, 178, 179, 180, 181, 182, 183, 31, 184, 185, 186, 187, 77, 82, 188, 189, 190, 191, 35, 39, 192, 193, 194, 195, 196, 197, 198, 199, 32, 200, 201, 202, 203, 80, 81, 204, 205, 206, 207, 208, 209, 210, 211, 212, 213, 214, 215, 18, 19, 21, 216, 217, 218, 219, 120, 220, 221, 222, 223, 224, 30, 225, 226, 227, 87, 228, 91, 229, 89, 90, 230, 231, 232, 233, 234, 235, 236, 237, 238, 239, 240, 241, 242, 108, 109, 110, 111, 116, 117, 118, 119, 243, 244, 245, 246, 255, 256, 257, 258, 259, 260, 261, 262, 263, 264, 265, 266, 267, 268, 282, 283, 284, 285, 286, 287, 288, 289, 290, 269, 270, 271, 272, 273, 274, 275, 276, 277, 278, 279, 280, 281, 291, 292, 293] (by decide +kernel) (by decide +kernel)) (goodIn_sub (fun _ h => List.mem_cons_of_mem _ (List.mem_append_right _ h)) (by decide +kernel))
set_option maxRecDepth 20000 in
theorem gX9_minutesUntilLit_X8_passMinute : GoodIn wsX9_minutesUntilLit (wsV RX9 148 RX8 yX8_passMinute wsX8_passMinute) := goodIn_app (goodIn_of _ (by decide +kernel)) ggX9_minutesUntilLit_X8_passMinute
theorem dX9_minutesUntilLit_0 : decode cX9_minutesUntilLit 0 = .ok (.aload_n 0, 1) := by decide +kernel
theorem dX9_minutesUntilLit_1 : decode cX9_minutesUntilLit 1 = .ok (.invokevirtual 94, 3) := by decide +kernel
theorem dX9_minutesUntilLit_4 : decode cX9_minutesUntilLit 4 = .ok (.aload_n 0, 1) := by decide +kernel
theorem dX9_minutesUntilLit_5 : decode cX9_minutesUntilLit 5 = .ok (.iload_n 1, 1) := by decide +kernel
theorem dX9_minutesUntilLit_6 : decode cX9_minutesUntilLit 6 = .ok (.invokevirtual 128, 3) := by decide +kernel
theorem dX9_minutesUntilLit_9 : decode cX9_minutesUntilLit 9 = .ok (.aload_n 0, 1) := by decide +kernel
theorem dX9_minutesUntilLit_10 : decode cX9_minutesUntilLit 10 = .ok (.getfield 27, 3) := by decide +kernel
theorem dX9_minutesUntilLit_13 : decode cX9_minutesUntilLit 13 = .ok (.aload_n 0, 1) := by decide +kernel
theorem dX9_minutesUntilLit_14 : decode cX9_minutesUntilLit 14 = .ok (.getfield 23, 3) := by decide +kernel
theorem dX9_minutesUntilLit_17 : decode cX9_minutesUntilLit 17 = .ok (.invokevirtual 78, 3) := by decide +kernel
theorem dX9_minutesUntilLit_20 : decode cX9_minutesUntilLit 20 = .ok (.iconst 0, 1) := by decide +kernel
theorem dX9_minutesUntilLit_21 : decode cX9_minutesUntilLit 21 = .ok (.istore_n 2, 1) := by decide +kernel
theorem dX9_minutesUntilLit_22 : decode cX9_minutesUntilLit 22 = .ok (.iload_n 2, 1) := by decide +kernel
theorem dX9_minutesUntilLit_23 : decode cX9_minutesUntilLit 23 = .ok (.sipush 500, 3) := by decide +kernel
theorem dX9_minutesUntilLit_26 : decode cX9_minutesUntilLit 26 = .ok (.if_icmp .gt 29, 3) := by decide +kernel
theorem dX9_minutesUntilLit_29 : decode cX9_minutesUntilLit 29 = .ok (.aload_n 0, 1) := by decide +kernel
theorem dX9_minutesUntilLit_30 : decode cX9_minutesUntilLit 30 = .ok (.getfield 27, 3) := by decide +kernel
theorem dX9_minutesUntilLit_33 : decode cX9_minutesUntilLit 33 = .ok (.iload_n 1, 1) := by decide +kernel
theorem dX9_minutesUntilLit_34 : decode cX9_minutesUntilLit 34 = .ok (.invokevirtual 131, 3) := by decide +kernel
theorem dX9_minutesUntilLit_37 : decode cX9_minutesUntilLit 37 = .ok (.ifCond .eq 5, 3) := by decide +kernel
theorem dX9_minutesUntilLit_40 : decode cX9_minutesUntilLit 40 = .ok (.iload_n 2, 1) := by decide +kernel
theorem dX9_minutesUntilLit_41 : decode cX9_minutesUntilLit 41 = .ok (.ireturn, 1) := by decide +kernel
theorem dX9_minutesUntilLit_42 : decode cX9_minutesUntilLit 42 = .ok (.aload_n 0, 1) := by decide +kernel
theorem dX9_minutesUntilLit_43 : decode cX9_minutesUntilLit 43 = .ok (.getfield 27, 3) := by decide +kernel
theorem dX9_minutesUntilLit_46 : decode cX9_minutesUntilLit 46 = .ok (.invokevirtual 148, 3) := by decide +kernel
theorem dX9_minutesUntilLit_49 : decode cX9_minutesUntilLit 49 = .ok (.iinc 2 1, 3) := by decide +kernel
theorem dX9_minutesUntilLit_52 : decode cX9_minutesUntilLit 52 = .ok (.goto (-30), 3) := by decide +kernel
theorem dX9_minutesUntilLit_55 : decode cX9_minutesUntilLit 55 = .ok (.iconst (-1), 1) := by decide +kernel
theorem dX9_minutesUntilLit_56 : decode cX9_minutesUntilLit 56 = .ok (.ireturn, 1) := by decide +kernel
set_option maxRecDepth 20000 in
theorem ggX9_nightsUntilFullMoon_X9_requireSetup : GoodIn wsX9_nightsUntilFullMoon wsX9_requireSetup := goodIn_ca (goodIn_r _ [7, 8, 9, 10, 11, 12, 13, 14, 15, 16, 17, 18] (by decide +kernel) (by decide +kernel)) (goodIn_sub (fun _ h => List.mem_cons_of_mem _ (List.mem_append_right _ h)) (by decide +kernel))
set_option maxRecDepth 20000 in
theorem gX9_nightsUntilFullMoon_X9_requireSetup : GoodIn wsX9_nightsUntilFullMoon (wsV RX9 94 RX9 yX9_requireSetup wsX9_requireSetup) := goodIn_app (goodIn_of _ (by decide +kernel)) ggX9_nightsUntilFullMoon_X9_requireSetup
theorem dX9_nightsUntilFullMoon_0 : decode cX9_nightsUntilFullMoon 0 = .ok (.aload_n 0, 1) := by decide +kernel
theorem dX9_nightsUntilFullMoon_1 : decode cX9_nightsUntilFullMoon 1 = .ok (.invokevirtual 94, 3) := by decide +kernel
theorem dX9_nightsUntilFullMoon_4 : decode cX9_nightsUntilFullMoon 4 = .ok (.aload_n 0, 1) := by decide +kernel
theorem dX9_nightsUntilFullMoon_5 : decode cX9_nightsUntilFullMoon 5 = .ok (.getfield 23, 3) := by decide +kernel
theorem dX9_nightsUntilFullMoon_8 : decode cX9_nightsUntilFullMoon 8 = .ok (.getfield 112, 3) := by decide +kernel
theorem dX9_nightsUntilFullMoon_11 : decode cX9_nightsUntilFullMoon 11 = .ok (.bipush 30, 2) := by decide +kernel
theorem dX9_nightsUntilFullMoon_13 : decode cX9_nightsUntilFullMoon 13 = .ok (.irem, 1) := by decide +kernel
theorem dX9_nightsUntilFullMoon_14 : decode cX9_nightsUntilFullMoon 14 = .ok (.istore_n 1, 1) := by decide +kernel
theorem dX9_nightsUntilFullMoon_15 : decode cX9_nightsUntilFullMoon 15 = .ok (.bipush 15, 2) := by decide +kernel
theorem dX9_nightsUntilFullMoon_17 : decode cX9_nightsUntilFullMoon 17 = .ok (.iload_n 1, 1) := by decide +kernel
theorem dX9_nightsUntilFullMoon_18 : decode cX9_nightsUntilFullMoon 18 = .ok (.isub, 1) := by decide +kernel
theorem dX9_nightsUntilFullMoon_19 : decode cX9_nightsUntilFullMoon 19 = .ok (.bipush 30, 2) := by decide +kernel
theorem dX9_nightsUntilFullMoon_21 : decode cX9_nightsUntilFullMoon 21 = .ok (.iadd, 1) := by decide +kernel
theorem dX9_nightsUntilFullMoon_22 : decode cX9_nightsUntilFullMoon 22 = .ok (.bipush 30, 2) := by decide +kernel
theorem dX9_nightsUntilFullMoon_24 : decode cX9_nightsUntilFullMoon 24 = .ok (.irem, 1) := by decide +kernel
theorem dX9_nightsUntilFullMoon_25 : decode cX9_nightsUntilFullMoon 25 = .ok (.ireturn, 1) := by decide +kernel
set_option maxRecDepth 20000 in
theorem ggX9_pace_X9_requireSetup : GoodIn wsX9_pace wsX9_requireSetup := goodIn_ca (goodIn_r _ [7, 8, 9, 10, 11, 12, 13, 14, 15, 16, 17, 18] (by decide +kernel) (by decide +kernel)) (goodIn_sub (fun _ h => List.mem_cons_of_mem _ (List.mem_append_right _ h)) (by decide +kernel))
set_option maxRecDepth 20000 in
theorem gX9_pace_X9_requireSetup : GoodIn wsX9_pace (wsV RX9 94 RX9 yX9_requireSetup wsX9_requireSetup) := goodIn_app (goodIn_of _ (by decide +kernel)) ggX9_pace_X9_requireSetup
theorem dX9_pace_0 : decode cX9_pace 0 = .ok (.aload_n 0, 1) := by decide +kernel
theorem dX9_pace_1 : decode cX9_pace 1 = .ok (.invokevirtual 94, 3) := by decide +kernel
theorem dX9_pace_4 : decode cX9_pace 4 = .ok (.aload_n 0, 1) := by decide +kernel
theorem dX9_pace_5 : decode cX9_pace 5 = .ok (.getfield 23, 3) := by decide +kernel
theorem dX9_pace_8 : decode cX9_pace 8 = .ok (.getfield 151, 3) := by decide +kernel
theorem dX9_pace_11 : decode cX9_pace 11 = .ok (.ireturn, 1) := by decide +kernel
set_option maxRecDepth 20000 in
theorem ggX9_stepsPerMinute_X9_requireSetup : GoodIn wsX9_stepsPerMinute wsX9_requireSetup := goodIn_ca (goodIn_r _ [6, 7, 8, 9, 39, 40, 41, 42, 43, 44, 45, 46] (by decide +kernel) (by decide +kernel)) (goodIn_sub (fun _ h => List.mem_cons_of_mem _ (List.mem_append_left _ (List.mem_append_right _ h))) (by decide +kernel))
set_option maxRecDepth 20000 in
theorem gX9_stepsPerMinute_X9_requireSetup : GoodIn wsX9_stepsPerMinute (wsV RX9 94 RX9 yX9_requireSetup wsX9_requireSetup) := goodIn_app (goodIn_of _ (by decide +kernel)) ggX9_stepsPerMinute_X9_requireSetup
set_option maxRecDepth 20000 in
theorem ggX9_stepsPerMinute_X8_triedSteps : GoodIn wsX9_stepsPerMinute wsX8_triedSteps := goodIn_ca (goodIn_r _ [14, 15, 16, 17, 18, 19, 20, 21, 22, 13, 23, 24, 25, 26, 27, 28, 29, 30, 31, 32, 33, 34, 35, 36, 37, 38, 47, 48, 49, 50, 51, 52, 53, 54, 55, 56, 57, 58, 59, 60, 61, 62, 63, 64, 65, 66, 67, 68, 69, 70, 71, 72, 73] (by decide +kernel) (by decide +kernel)) (goodIn_sub (fun _ h => List.mem_cons_of_mem _ (List.mem_append_right _ h)) (by decide +kernel))
set_option maxRecDepth 20000 in
theorem gX9_stepsPerMinute_X8_triedSteps : GoodIn wsX9_stepsPerMinute (wsV RX9 154 RX8 yX8_triedSteps wsX8_triedSteps) := goodIn_app (goodIn_of _ (by decide +kernel)) ggX9_stepsPerMinute_X8_triedSteps
theorem dX9_stepsPerMinute_0 : decode cX9_stepsPerMinute 0 = .ok (.aload_n 0, 1) := by decide +kernel
theorem dX9_stepsPerMinute_1 : decode cX9_stepsPerMinute 1 = .ok (.invokevirtual 94, 3) := by decide +kernel
theorem dX9_stepsPerMinute_4 : decode cX9_stepsPerMinute 4 = .ok (.aload_n 0, 1) := by decide +kernel
theorem dX9_stepsPerMinute_5 : decode cX9_stepsPerMinute 5 = .ok (.getfield 23, 3) := by decide +kernel
theorem dX9_stepsPerMinute_8 : decode cX9_stepsPerMinute 8 = .ok (.invokevirtual 154, 3) := by decide +kernel
theorem dX9_stepsPerMinute_11 : decode cX9_stepsPerMinute 11 = .ok (.ireturn, 1) := by decide +kernel
set_option maxRecDepth 20000 in
theorem ggX9_walkerTile_X9_requireSetup : GoodIn wsX9_walkerTile wsX9_requireSetup := goodIn_ca (goodIn_r _ [8, 9, 10, 11, 12, 13, 14, 15, 16, 17, 18, 19] (by decide +kernel) (by decide +kernel)) (goodIn_sub (fun _ h => List.mem_cons_of_mem _ (List.mem_append_right _ h)) (by decide +kernel))
set_option maxRecDepth 20000 in
theorem gX9_walkerTile_X9_requireSetup : GoodIn wsX9_walkerTile (wsV RX9 94 RX9 yX9_requireSetup wsX9_requireSetup) := goodIn_app (goodIn_of _ (by decide +kernel)) ggX9_walkerTile_X9_requireSetup
theorem dX9_walkerTile_0 : decode cX9_walkerTile 0 = .ok (.aload_n 0, 1) := by decide +kernel
theorem dX9_walkerTile_1 : decode cX9_walkerTile 1 = .ok (.invokevirtual 94, 3) := by decide +kernel
theorem dX9_walkerTile_4 : decode cX9_walkerTile 4 = .ok (.aload_n 0, 1) := by decide +kernel
theorem dX9_walkerTile_5 : decode cX9_walkerTile 5 = .ok (.getfield 23, 3) := by decide +kernel
theorem dX9_walkerTile_8 : decode cX9_walkerTile 8 = .ok (.getfield 157, 3) := by decide +kernel
theorem dX9_walkerTile_11 : decode cX9_walkerTile 11 = .ok (.getfield 161, 3) := by decide +kernel
theorem dX9_walkerTile_14 : decode cX9_walkerTile 14 = .ok (.ireturn, 1) := by decide +kernel
set_option maxRecDepth 20000 in
theorem ggX9_facesRight_X9_requireSetup : GoodIn wsX9_facesRight wsX9_requireSetup := goodIn_ca (goodIn_r _ [8, 9, 10, 11, 12, 13, 14, 15, 16, 17, 18, 19] (by decide +kernel) (by decide +kernel)) (goodIn_sub (fun _ h => List.mem_cons_of_mem _ (List.mem_append_right _ h)) (by decide +kernel))
set_option maxRecDepth 20000 in
theorem gX9_facesRight_X9_requireSetup : GoodIn wsX9_facesRight (wsV RX9 94 RX9 yX9_requireSetup wsX9_requireSetup) := goodIn_app (goodIn_of _ (by decide +kernel)) ggX9_facesRight_X9_requireSetup
theorem dX9_facesRight_0 : decode cX9_facesRight 0 = .ok (.aload_n 0, 1) := by decide +kernel
theorem dX9_facesRight_1 : decode cX9_facesRight 1 = .ok (.invokevirtual 94, 3) := by decide +kernel
theorem dX9_facesRight_4 : decode cX9_facesRight 4 = .ok (.aload_n 0, 1) := by decide +kernel
theorem dX9_facesRight_5 : decode cX9_facesRight 5 = .ok (.getfield 23, 3) := by decide +kernel
theorem dX9_facesRight_8 : decode cX9_facesRight 8 = .ok (.getfield 157, 3) := by decide +kernel
theorem dX9_facesRight_11 : decode cX9_facesRight 11 = .ok (.getfield 166, 3) := by decide +kernel
theorem dX9_facesRight_14 : decode cX9_facesRight 14 = .ok (.ireturn, 1) := by decide +kernel
set_option maxRecDepth 20000 in
theorem ggX9_restRemaining_X9_requireSetup : GoodIn wsX9_restRemaining wsX9_requireSetup := goodIn_ca (goodIn_r _ [8, 9, 10, 11, 12, 13, 14, 15, 16, 17, 18, 19] (by decide +kernel) (by decide +kernel)) (goodIn_sub (fun _ h => List.mem_cons_of_mem _ (List.mem_append_right _ h)) (by decide +kernel))
set_option maxRecDepth 20000 in
theorem gX9_restRemaining_X9_requireSetup : GoodIn wsX9_restRemaining (wsV RX9 94 RX9 yX9_requireSetup wsX9_requireSetup) := goodIn_app (goodIn_of _ (by decide +kernel)) ggX9_restRemaining_X9_requireSetup
theorem dX9_restRemaining_0 : decode cX9_restRemaining 0 = .ok (.aload_n 0, 1) := by decide +kernel
theorem dX9_restRemaining_1 : decode cX9_restRemaining 1 = .ok (.invokevirtual 94, 3) := by decide +kernel
theorem dX9_restRemaining_4 : decode cX9_restRemaining 4 = .ok (.aload_n 0, 1) := by decide +kernel
theorem dX9_restRemaining_5 : decode cX9_restRemaining 5 = .ok (.getfield 23, 3) := by decide +kernel
theorem dX9_restRemaining_8 : decode cX9_restRemaining 8 = .ok (.getfield 157, 3) := by decide +kernel
theorem dX9_restRemaining_11 : decode cX9_restRemaining 11 = .ok (.getfield 169, 3) := by decide +kernel
theorem dX9_restRemaining_14 : decode cX9_restRemaining 14 = .ok (.ireturn, 1) := by decide +kernel
set_option maxRecDepth 20000 in
theorem ggX9_stepsSincePause_X9_requireSetup : GoodIn wsX9_stepsSincePause wsX9_requireSetup := goodIn_ca (goodIn_r _ [8, 9, 10, 11, 12, 13, 14, 15, 16, 17, 18, 19] (by decide +kernel) (by decide +kernel)) (goodIn_sub (fun _ h => List.mem_cons_of_mem _ (List.mem_append_right _ h)) (by decide +kernel))
set_option maxRecDepth 20000 in
theorem gX9_stepsSincePause_X9_requireSetup : GoodIn wsX9_stepsSincePause (wsV RX9 94 RX9 yX9_requireSetup wsX9_requireSetup) := goodIn_app (goodIn_of _ (by decide +kernel)) ggX9_stepsSincePause_X9_requireSetup
theorem dX9_stepsSincePause_0 : decode cX9_stepsSincePause 0 = .ok (.aload_n 0, 1) := by decide +kernel
theorem dX9_stepsSincePause_1 : decode cX9_stepsSincePause 1 = .ok (.invokevirtual 94, 3) := by decide +kernel
theorem dX9_stepsSincePause_4 : decode cX9_stepsSincePause 4 = .ok (.aload_n 0, 1) := by decide +kernel
theorem dX9_stepsSincePause_5 : decode cX9_stepsSincePause 5 = .ok (.getfield 23, 3) := by decide +kernel
theorem dX9_stepsSincePause_8 : decode cX9_stepsSincePause 8 = .ok (.getfield 157, 3) := by decide +kernel
theorem dX9_stepsSincePause_11 : decode cX9_stepsSincePause 11 = .ok (.getfield 172, 3) := by decide +kernel
theorem dX9_stepsSincePause_14 : decode cX9_stepsSincePause 14 = .ok (.ireturn, 1) := by decide +kernel
set_option maxRecDepth 20000 in
theorem ggX9_totalSteps_X9_requireSetup : GoodIn wsX9_totalSteps wsX9_requireSetup := goodIn_ca (goodIn_r _ [8, 9, 10, 11, 12, 13, 14, 15, 16, 17, 18, 19] (by decide +kernel) (by decide +kernel)) (goodIn_sub (fun _ h => List.mem_cons_of_mem _ (List.mem_append_right _ h)) (by decide +kernel))
set_option maxRecDepth 20000 in
theorem gX9_totalSteps_X9_requireSetup : GoodIn wsX9_totalSteps (wsV RX9 94 RX9 yX9_requireSetup wsX9_requireSetup) := goodIn_app (goodIn_of _ (by decide +kernel)) ggX9_totalSteps_X9_requireSetup
theorem dX9_totalSteps_0 : decode cX9_totalSteps 0 = .ok (.aload_n 0, 1) := by decide +kernel
theorem dX9_totalSteps_1 : decode cX9_totalSteps 1 = .ok (.invokevirtual 94, 3) := by decide +kernel
theorem dX9_totalSteps_4 : decode cX9_totalSteps 4 = .ok (.aload_n 0, 1) := by decide +kernel
theorem dX9_totalSteps_5 : decode cX9_totalSteps 5 = .ok (.getfield 23, 3) := by decide +kernel
theorem dX9_totalSteps_8 : decode cX9_totalSteps 8 = .ok (.getfield 157, 3) := by decide +kernel
theorem dX9_totalSteps_11 : decode cX9_totalSteps 11 = .ok (.getfield 175, 3) := by decide +kernel
theorem dX9_totalSteps_14 : decode cX9_totalSteps 14 = .ok (.ireturn, 1) := by decide +kernel
set_option maxRecDepth 20000 in
theorem ggX9_stepsTonight_X9_requireSetup : GoodIn wsX9_stepsTonight wsX9_requireSetup := goodIn_ca (goodIn_r _ [8, 9, 10, 11, 12, 13, 14, 15, 16, 17, 18, 19] (by decide +kernel) (by decide +kernel)) (goodIn_sub (fun _ h => List.mem_cons_of_mem _ (List.mem_append_right _ h)) (by decide +kernel))
set_option maxRecDepth 20000 in
theorem gX9_stepsTonight_X9_requireSetup : GoodIn wsX9_stepsTonight (wsV RX9 94 RX9 yX9_requireSetup wsX9_requireSetup) := goodIn_app (goodIn_of _ (by decide +kernel)) ggX9_stepsTonight_X9_requireSetup
theorem dX9_stepsTonight_0 : decode cX9_stepsTonight 0 = .ok (.aload_n 0, 1) := by decide +kernel
theorem dX9_stepsTonight_1 : decode cX9_stepsTonight 1 = .ok (.invokevirtual 94, 3) := by decide +kernel
theorem dX9_stepsTonight_4 : decode cX9_stepsTonight 4 = .ok (.aload_n 0, 1) := by decide +kernel
theorem dX9_stepsTonight_5 : decode cX9_stepsTonight 5 = .ok (.getfield 23, 3) := by decide +kernel
theorem dX9_stepsTonight_8 : decode cX9_stepsTonight 8 = .ok (.getfield 157, 3) := by decide +kernel
theorem dX9_stepsTonight_11 : decode cX9_stepsTonight 11 = .ok (.getfield 178, 3) := by decide +kernel
theorem dX9_stepsTonight_14 : decode cX9_stepsTonight 14 = .ok (.ireturn, 1) := by decide +kernel
set_option maxRecDepth 20000 in
theorem ggX9_turnCount_X9_requireSetup : GoodIn wsX9_turnCount wsX9_requireSetup := goodIn_ca (goodIn_r _ [8, 9, 10, 11, 12, 13, 14, 15, 16, 17, 18, 19] (by decide +kernel) (by decide +kernel)) (goodIn_sub (fun _ h => List.mem_cons_of_mem _ (List.mem_append_right _ h)) (by decide +kernel))
set_option maxRecDepth 20000 in
theorem gX9_turnCount_X9_requireSetup : GoodIn wsX9_turnCount (wsV RX9 94 RX9 yX9_requireSetup wsX9_requireSetup) := goodIn_app (goodIn_of _ (by decide +kernel)) ggX9_turnCount_X9_requireSetup
theorem dX9_turnCount_0 : decode cX9_turnCount 0 = .ok (.aload_n 0, 1) := by decide +kernel
theorem dX9_turnCount_1 : decode cX9_turnCount 1 = .ok (.invokevirtual 94, 3) := by decide +kernel
theorem dX9_turnCount_4 : decode cX9_turnCount 4 = .ok (.aload_n 0, 1) := by decide +kernel
theorem dX9_turnCount_5 : decode cX9_turnCount 5 = .ok (.getfield 23, 3) := by decide +kernel
theorem dX9_turnCount_8 : decode cX9_turnCount 8 = .ok (.getfield 157, 3) := by decide +kernel
theorem dX9_turnCount_11 : decode cX9_turnCount 11 = .ok (.getfield 181, 3) := by decide +kernel
theorem dX9_turnCount_14 : decode cX9_turnCount 14 = .ok (.ireturn, 1) := by decide +kernel
set_option maxRecDepth 20000 in
theorem ggX9_fallCount_X9_requireSetup : GoodIn wsX9_fallCount wsX9_requireSetup := goodIn_ca (goodIn_r _ [8, 9, 10, 11, 12, 13, 14, 15, 16, 17, 18, 19] (by decide +kernel) (by decide +kernel)) (goodIn_sub (fun _ h => List.mem_cons_of_mem _ (List.mem_append_right _ h)) (by decide +kernel))
set_option maxRecDepth 20000 in
theorem gX9_fallCount_X9_requireSetup : GoodIn wsX9_fallCount (wsV RX9 94 RX9 yX9_requireSetup wsX9_requireSetup) := goodIn_app (goodIn_of _ (by decide +kernel)) ggX9_fallCount_X9_requireSetup
theorem dX9_fallCount_0 : decode cX9_fallCount 0 = .ok (.aload_n 0, 1) := by decide +kernel
theorem dX9_fallCount_1 : decode cX9_fallCount 1 = .ok (.invokevirtual 94, 3) := by decide +kernel
theorem dX9_fallCount_4 : decode cX9_fallCount 4 = .ok (.aload_n 0, 1) := by decide +kernel
theorem dX9_fallCount_5 : decode cX9_fallCount 5 = .ok (.getfield 23, 3) := by decide +kernel
theorem dX9_fallCount_8 : decode cX9_fallCount 8 = .ok (.getfield 157, 3) := by decide +kernel
theorem dX9_fallCount_11 : decode cX9_fallCount 11 = .ok (.getfield 184, 3) := by decide +kernel
theorem dX9_fallCount_14 : decode cX9_fallCount 14 = .ok (.ireturn, 1) := by decide +kernel
set_option maxRecDepth 20000 in
theorem ggX9_blockReason_X9_requireSetup : GoodIn wsX9_blockReason wsX9_requireSetup := goodIn_ca (goodIn_r _ [6, 7, 8, 9, 52, 53, 54, 55, 56, 57, 58, 59] (by decide +kernel) (by decide +kernel)) (goodIn_sub (fun _ h => List.mem_cons_of_mem _ (List.mem_append_left _ (List.mem_append_right _ h))) (by decide +kernel))
set_option maxRecDepth 20000 in
theorem gX9_blockReason_X9_requireSetup : GoodIn wsX9_blockReason (wsV RX9 94 RX9 yX9_requireSetup wsX9_requireSetup) := goodIn_app (goodIn_of _ (by decide +kernel)) ggX9_blockReason_X9_requireSetup
set_option maxRecDepth 20000 in
theorem ggX9_blockReason_X8_obstacle : GoodIn wsX9_blockReason wsX8_obstacle := goodIn_ca (goodIn_r _ [14, 15, 16, 17, 18, 19, 20, 21, 22, 23, 13, 24, 25, 26, 27, 28, 29, 30, 31, 32, 33, 34, 35, 36, 37, 38, 39, 40, 41, 42, 43, 44, 45, 46, 47, 48, 49, 50, 5, 51, 60, 61, 62, 63, 64, 65, 66, 67, 68, 69, 70, 71, 72, 73, 74, 75, 76, 77, 78, 79, 80, 81, 82, 83, 84, 85, 86, 87, 88, 89, 90, 91, 92, 93, 94, 95] (by decide +kernel) (by decide +kernel)) (goodIn_sub (fun _ h => List.mem_cons_of_mem _ (List.mem_append_right _ h)) (by decide +kernel))
set_option maxRecDepth 20000 in
theorem gX9_blockReason_X8_obstacle : GoodIn wsX9_blockReason (wsV RX9 187 RX8 yX8_obstacle wsX8_obstacle) := goodIn_app (goodIn_of _ (by decide +kernel)) ggX9_blockReason_X8_obstacle
theorem dX9_blockReason_0 : decode cX9_blockReason 0 = .ok (.aload_n 0, 1) := by decide +kernel
theorem dX9_blockReason_1 : decode cX9_blockReason 1 = .ok (.invokevirtual 94, 3) := by decide +kernel
theorem dX9_blockReason_4 : decode cX9_blockReason 4 = .ok (.aload_n 0, 1) := by decide +kernel
theorem dX9_blockReason_5 : decode cX9_blockReason 5 = .ok (.getfield 23, 3) := by decide +kernel
theorem dX9_blockReason_8 : decode cX9_blockReason 8 = .ok (.invokevirtual 187, 3) := by decide +kernel
theorem dX9_blockReason_11 : decode cX9_blockReason 11 = .ok (.ireturn, 1) := by decide +kernel
set_option maxRecDepth 20000 in
theorem ggX9_wear_X9_requireSetup : GoodIn wsX9_wear wsX9_requireSetup := goodIn_ca (goodIn_r _ [7, 8, 9, 10, 28, 29, 30, 31, 32, 33, 34, 35] (by decide +kernel) (by decide +kernel)) (goodIn_sub (fun _ h => List.mem_cons_of_mem _ (List.mem_append_left _ (List.mem_append_left _ (List.mem_append_right _ h)))) (by decide +kernel))
set_option maxRecDepth 20000 in
theorem gX9_wear_X9_requireSetup : GoodIn wsX9_wear (wsV RX9 94 RX9 yX9_requireSetup wsX9_requireSetup) := goodIn_app (goodIn_of _ (by decide +kernel)) ggX9_wear_X9_requireSetup
set_option maxRecDepth 20000 in
theorem ggX9_wear_X9_requireTile : GoodIn wsX9_wear wsX9_requireTile := goodIn_ca (goodIn_r _ [14, 15, 16, 1, 17, 18, 19, 20, 21, 22, 23, 24, 28, 29, 30, 31, 32, 33, 34, 35, 36, 37, 38, 39, 40, 41, 42, 43, 44, 45, 46, 47, 48, 49, 50, 51, 52, 53, 54, 55, 56, 57, 58, 59, 60, 61, 62] (by decide +kernel) (by decide +kernel)) (goodIn_sub (fun _ h => List.mem_cons_of_mem _ (List.mem_append_left _ (List.mem_append_right _ h))) (by decide +kernel))
set_option maxRecDepth 20000 in
theorem gX9_wear_X9_requireTile : GoodIn wsX9_wear (wsV RX9 128 RX9 yX9_requireTile wsX9_requireTile) := goodIn_app (goodIn_of _ (by decide +kernel)) ggX9_wear_X9_requireTile
set_option maxRecDepth 20000 in
theorem ggX9_wear_X9_at : GoodIn wsX9_wear wsX9_at := goodIn_ca (goodIn_r _ [27] (by decide +kernel) (by decide +kernel)) (goodIn_sub (fun _ h => List.mem_cons_of_mem _ (List.mem_append_right _ h)) (by decide +kernel))
set_option maxRecDepth 20000 in
theorem gX9_wear_X9_at : GoodIn wsX9_wear (va_wsS RX9 141 yX9_at wsX9_at) := goodIn_app (goodIn_of _ (by decide +kernel)) ggX9_wear_X9_at
theorem dX9_wear_0 : decode cX9_wear 0 = .ok (.aload_n 0, 1) := by decide +kernel
theorem dX9_wear_1 : decode cX9_wear 1 = .ok (.invokevirtual 94, 3) := by decide +kernel
theorem dX9_wear_4 : decode cX9_wear 4 = .ok (.aload_n 0, 1) := by decide +kernel
theorem dX9_wear_5 : decode cX9_wear 5 = .ok (.iload_n 1, 1) := by decide +kernel
theorem dX9_wear_6 : decode cX9_wear 6 = .ok (.invokevirtual 128, 3) := by decide +kernel
theorem dX9_wear_9 : decode cX9_wear 9 = .ok (.aload_n 0, 1) := by decide +kernel
theorem dX9_wear_10 : decode cX9_wear 10 = .ok (.getfield 23, 3) := by decide +kernel
theorem dX9_wear_13 : decode cX9_wear 13 = .ok (.getfield 190, 3) := by decide +kernel
theorem dX9_wear_16 : decode cX9_wear 16 = .ok (.iload_n 1, 1) := by decide +kernel
theorem dX9_wear_17 : decode cX9_wear 17 = .ok (.invokestatic 141, 3) := by decide +kernel
theorem dX9_wear_20 : decode cX9_wear 20 = .ok (.ireturn, 1) := by decide +kernel
set_option maxRecDepth 20000 in
theorem ggX9_catTile_X9_requireSetup : GoodIn wsX9_catTile wsX9_requireSetup := goodIn_ca (goodIn_r _ [7, 8, 9, 10, 11, 12, 13, 14, 15, 16, 17, 18] (by decide +kernel) (by decide +kernel)) (goodIn_sub (fun _ h => List.mem_cons_of_mem _ (List.mem_append_right _ h)) (by decide +kernel))
set_option maxRecDepth 20000 in
theorem gX9_catTile_X9_requireSetup : GoodIn wsX9_catTile (wsV RX9 94 RX9 yX9_requireSetup wsX9_requireSetup) := goodIn_app (goodIn_of _ (by decide +kernel)) ggX9_catTile_X9_requireSetup
theorem dX9_catTile_0 : decode cX9_catTile 0 = .ok (.aload_n 0, 1) := by decide +kernel
theorem dX9_catTile_1 : decode cX9_catTile 1 = .ok (.invokevirtual 94, 3) := by decide +kernel
theorem dX9_catTile_4 : decode cX9_catTile 4 = .ok (.aload_n 0, 1) := by decide +kernel
theorem dX9_catTile_5 : decode cX9_catTile 5 = .ok (.getfield 23, 3) := by decide +kernel
theorem dX9_catTile_8 : decode cX9_catTile 8 = .ok (.getfield 193, 3) := by decide +kernel
theorem dX9_catTile_11 : decode cX9_catTile 11 = .ok (.ireturn, 1) := by decide +kernel
set_option maxRecDepth 20000 in
theorem ggX9_hasRug_X9_requireSetup : GoodIn wsX9_hasRug wsX9_requireSetup := goodIn_ca (goodIn_r _ [7, 8, 9, 10, 28, 29, 30, 31, 32, 33, 34, 35] (by decide +kernel) (by decide +kernel)) (goodIn_sub (fun _ h => List.mem_cons_of_mem _ (List.mem_append_left _ (List.mem_append_left _ (List.mem_append_right _ h)))) (by decide +kernel))
set_option maxRecDepth 20000 in
theorem gX9_hasRug_X9_requireSetup : GoodIn wsX9_hasRug (wsV RX9 94 RX9 yX9_requireSetup wsX9_requireSetup) := goodIn_app (goodIn_of _ (by decide +kernel)) ggX9_hasRug_X9_requireSetup
set_option maxRecDepth 20000 in
theorem ggX9_hasRug_X9_requireTile : GoodIn wsX9_hasRug wsX9_requireTile := goodIn_ca (goodIn_r _ [14, 15, 16, 1, 17, 18, 19, 20, 21, 22, 23, 24, 28, 29, 30, 31, 32, 33, 34, 35, 36, 37, 38, 39, 40, 41, 42, 43, 44, 45, 46, 47, 48, 49, 50, 51, 52, 53, 54, 55, 56, 57, 58, 59, 60, 61, 62] (by decide +kernel) (by decide +kernel)) (goodIn_sub (fun _ h => List.mem_cons_of_mem _ (List.mem_append_left _ (List.mem_append_right _ h))) (by decide +kernel))
set_option maxRecDepth 20000 in
theorem gX9_hasRug_X9_requireTile : GoodIn wsX9_hasRug (wsV RX9 128 RX9 yX9_requireTile wsX9_requireTile) := goodIn_app (goodIn_of _ (by decide +kernel)) ggX9_hasRug_X9_requireTile
set_option maxRecDepth 20000 in
theorem ggX9_hasRug_X9_at : GoodIn wsX9_hasRug wsX9_at := goodIn_ca (goodIn_r _ [27] (by decide +kernel) (by decide +kernel)) (goodIn_sub (fun _ h => List.mem_cons_of_mem _ (List.mem_append_right _ h)) (by decide +kernel))
set_option maxRecDepth 20000 in
theorem gX9_hasRug_X9_at : GoodIn wsX9_hasRug (va_wsS RX9 141 yX9_at wsX9_at) := goodIn_app (goodIn_of _ (by decide +kernel)) ggX9_hasRug_X9_at
theorem dX9_hasRug_0 : decode cX9_hasRug 0 = .ok (.aload_n 0, 1) := by decide +kernel
theorem dX9_hasRug_1 : decode cX9_hasRug 1 = .ok (.invokevirtual 94, 3) := by decide +kernel
theorem dX9_hasRug_4 : decode cX9_hasRug 4 = .ok (.aload_n 0, 1) := by decide +kernel
theorem dX9_hasRug_5 : decode cX9_hasRug 5 = .ok (.iload_n 1, 1) := by decide +kernel
theorem dX9_hasRug_6 : decode cX9_hasRug 6 = .ok (.invokevirtual 128, 3) := by decide +kernel
theorem dX9_hasRug_9 : decode cX9_hasRug 9 = .ok (.aload_n 0, 1) := by decide +kernel
theorem dX9_hasRug_10 : decode cX9_hasRug 10 = .ok (.getfield 23, 3) := by decide +kernel
theorem dX9_hasRug_13 : decode cX9_hasRug 13 = .ok (.getfield 196, 3) := by decide +kernel
theorem dX9_hasRug_16 : decode cX9_hasRug 16 = .ok (.iload_n 1, 1) := by decide +kernel
theorem dX9_hasRug_17 : decode cX9_hasRug 17 = .ok (.invokestatic 141, 3) := by decide +kernel
theorem dX9_hasRug_20 : decode cX9_hasRug 20 = .ok (.ifCond .le 7, 3) := by decide +kernel
theorem dX9_hasRug_23 : decode cX9_hasRug 23 = .ok (.iconst 1, 1) := by decide +kernel
theorem dX9_hasRug_24 : decode cX9_hasRug 24 = .ok (.goto 4, 3) := by decide +kernel
theorem dX9_hasRug_27 : decode cX9_hasRug 27 = .ok (.iconst 0, 1) := by decide +kernel
theorem dX9_hasRug_28 : decode cX9_hasRug 28 = .ok (.ireturn, 1) := by decide +kernel
set_option maxRecDepth 20000 in
theorem ggX9_slideCount_X9_requireSetup : GoodIn wsX9_slideCount wsX9_requireSetup := goodIn_ca (goodIn_r _ [7, 8, 9, 10, 11, 12, 13, 14, 15, 16, 17, 18] (by decide +kernel) (by decide +kernel)) (goodIn_sub (fun _ h => List.mem_cons_of_mem _ (List.mem_append_right _ h)) (by decide +kernel))
set_option maxRecDepth 20000 in
theorem gX9_slideCount_X9_requireSetup : GoodIn wsX9_slideCount (wsV RX9 94 RX9 yX9_requireSetup wsX9_requireSetup) := goodIn_app (goodIn_of _ (by decide +kernel)) ggX9_slideCount_X9_requireSetup
theorem dX9_slideCount_0 : decode cX9_slideCount 0 = .ok (.aload_n 0, 1) := by decide +kernel
theorem dX9_slideCount_1 : decode cX9_slideCount 1 = .ok (.invokevirtual 94, 3) := by decide +kernel
theorem dX9_slideCount_4 : decode cX9_slideCount 4 = .ok (.aload_n 0, 1) := by decide +kernel
theorem dX9_slideCount_5 : decode cX9_slideCount 5 = .ok (.getfield 23, 3) := by decide +kernel
theorem dX9_slideCount_8 : decode cX9_slideCount 8 = .ok (.getfield 199, 3) := by decide +kernel
theorem dX9_slideCount_11 : decode cX9_slideCount 11 = .ok (.ireturn, 1) := by decide +kernel
set_option maxRecDepth 20000 in
theorem ggX9_hasBowl_X9_requireSetup : GoodIn wsX9_hasBowl wsX9_requireSetup := goodIn_ca (goodIn_r _ [7, 8, 9, 10, 28, 29, 30, 31, 32, 33, 34, 35] (by decide +kernel) (by decide +kernel)) (goodIn_sub (fun _ h => List.mem_cons_of_mem _ (List.mem_append_left _ (List.mem_append_left _ (List.mem_append_right _ h)))) (by decide +kernel))
set_option maxRecDepth 20000 in
theorem gX9_hasBowl_X9_requireSetup : GoodIn wsX9_hasBowl (wsV RX9 94 RX9 yX9_requireSetup wsX9_requireSetup) := goodIn_app (goodIn_of _ (by decide +kernel)) ggX9_hasBowl_X9_requireSetup
set_option maxRecDepth 20000 in
theorem ggX9_hasBowl_X9_requireTile : GoodIn wsX9_hasBowl wsX9_requireTile := goodIn_ca (goodIn_r _ [14, 15, 16, 1, 17, 18, 19, 20, 21, 22, 23, 24, 28, 29, 30, 31, 32, 33, 34, 35, 36, 37, 38, 39, 40, 41, 42, 43, 44, 45, 46, 47, 48, 49, 50, 51, 52, 53, 54, 55, 56, 57, 58, 59, 60, 61, 62] (by decide +kernel) (by decide +kernel)) (goodIn_sub (fun _ h => List.mem_cons_of_mem _ (List.mem_append_left _ (List.mem_append_right _ h))) (by decide +kernel))
set_option maxRecDepth 20000 in
theorem gX9_hasBowl_X9_requireTile : GoodIn wsX9_hasBowl (wsV RX9 128 RX9 yX9_requireTile wsX9_requireTile) := goodIn_app (goodIn_of _ (by decide +kernel)) ggX9_hasBowl_X9_requireTile
set_option maxRecDepth 20000 in
theorem ggX9_hasBowl_X9_at : GoodIn wsX9_hasBowl wsX9_at := goodIn_ca (goodIn_r _ [27] (by decide +kernel) (by decide +kernel)) (goodIn_sub (fun _ h => List.mem_cons_of_mem _ (List.mem_append_right _ h)) (by decide +kernel))
set_option maxRecDepth 20000 in
theorem gX9_hasBowl_X9_at : GoodIn wsX9_hasBowl (va_wsS RX9 141 yX9_at wsX9_at) := goodIn_app (goodIn_of _ (by decide +kernel)) ggX9_hasBowl_X9_at
theorem dX9_hasBowl_0 : decode cX9_hasBowl 0 = .ok (.aload_n 0, 1) := by decide +kernel
theorem dX9_hasBowl_1 : decode cX9_hasBowl 1 = .ok (.invokevirtual 94, 3) := by decide +kernel
theorem dX9_hasBowl_4 : decode cX9_hasBowl 4 = .ok (.aload_n 0, 1) := by decide +kernel
theorem dX9_hasBowl_5 : decode cX9_hasBowl 5 = .ok (.iload_n 1, 1) := by decide +kernel
theorem dX9_hasBowl_6 : decode cX9_hasBowl 6 = .ok (.invokevirtual 128, 3) := by decide +kernel
theorem dX9_hasBowl_9 : decode cX9_hasBowl 9 = .ok (.aload_n 0, 1) := by decide +kernel
theorem dX9_hasBowl_10 : decode cX9_hasBowl 10 = .ok (.getfield 23, 3) := by decide +kernel
theorem dX9_hasBowl_13 : decode cX9_hasBowl 13 = .ok (.getfield 202, 3) := by decide +kernel
theorem dX9_hasBowl_16 : decode cX9_hasBowl 16 = .ok (.iload_n 1, 1) := by decide +kernel
theorem dX9_hasBowl_17 : decode cX9_hasBowl 17 = .ok (.invokestatic 141, 3) := by decide +kernel
theorem dX9_hasBowl_20 : decode cX9_hasBowl 20 = .ok (.ifCond .le 7, 3) := by decide +kernel
theorem dX9_hasBowl_23 : decode cX9_hasBowl 23 = .ok (.iconst 1, 1) := by decide +kernel
theorem dX9_hasBowl_24 : decode cX9_hasBowl 24 = .ok (.goto 4, 3) := by decide +kernel
theorem dX9_hasBowl_27 : decode cX9_hasBowl 27 = .ok (.iconst 0, 1) := by decide +kernel
theorem dX9_hasBowl_28 : decode cX9_hasBowl 28 = .ok (.ireturn, 1) := by decide +kernel
set_option maxRecDepth 20000 in
theorem ggX9_spillTime_X9_requireSetup : GoodIn wsX9_spillTime wsX9_requireSetup := goodIn_ca (goodIn_r _ [7, 8, 9, 10, 28, 29, 30, 31, 32, 33, 34, 35] (by decide +kernel) (by decide +kernel)) (goodIn_sub (fun _ h => List.mem_cons_of_mem _ (List.mem_append_left _ (List.mem_append_left _ (List.mem_append_right _ h)))) (by decide +kernel))
set_option maxRecDepth 20000 in
theorem gX9_spillTime_X9_requireSetup : GoodIn wsX9_spillTime (wsV RX9 94 RX9 yX9_requireSetup wsX9_requireSetup) := goodIn_app (goodIn_of _ (by decide +kernel)) ggX9_spillTime_X9_requireSetup
set_option maxRecDepth 20000 in
theorem ggX9_spillTime_X9_requireTile : GoodIn wsX9_spillTime wsX9_requireTile := goodIn_ca (goodIn_r _ [14, 15, 16, 1, 17, 18, 19, 20, 21, 22, 23, 24, 28, 29, 30, 31, 32, 33, 34, 35, 36, 37, 38, 39, 40, 41, 42, 43, 44, 45, 46, 47, 48, 49, 50, 51, 52, 53, 54, 55, 56, 57, 58, 59, 60, 61, 62] (by decide +kernel) (by decide +kernel)) (goodIn_sub (fun _ h => List.mem_cons_of_mem _ (List.mem_append_left _ (List.mem_append_right _ h))) (by decide +kernel))
set_option maxRecDepth 20000 in
theorem gX9_spillTime_X9_requireTile : GoodIn wsX9_spillTime (wsV RX9 128 RX9 yX9_requireTile wsX9_requireTile) := goodIn_app (goodIn_of _ (by decide +kernel)) ggX9_spillTime_X9_requireTile
set_option maxRecDepth 20000 in
theorem ggX9_spillTime_X9_at : GoodIn wsX9_spillTime wsX9_at := goodIn_ca (goodIn_r _ [27] (by decide +kernel) (by decide +kernel)) (goodIn_sub (fun _ h => List.mem_cons_of_mem _ (List.mem_append_right _ h)) (by decide +kernel))
set_option maxRecDepth 20000 in
theorem gX9_spillTime_X9_at : GoodIn wsX9_spillTime (va_wsS RX9 141 yX9_at wsX9_at) := goodIn_app (goodIn_of _ (by decide +kernel)) ggX9_spillTime_X9_at
theorem dX9_spillTime_0 : decode cX9_spillTime 0 = .ok (.aload_n 0, 1) := by decide +kernel
theorem dX9_spillTime_1 : decode cX9_spillTime 1 = .ok (.invokevirtual 94, 3) := by decide +kernel
theorem dX9_spillTime_4 : decode cX9_spillTime 4 = .ok (.aload_n 0, 1) := by decide +kernel
theorem dX9_spillTime_5 : decode cX9_spillTime 5 = .ok (.iload_n 1, 1) := by decide +kernel
theorem dX9_spillTime_6 : decode cX9_spillTime 6 = .ok (.invokevirtual 128, 3) := by decide +kernel
theorem dX9_spillTime_9 : decode cX9_spillTime 9 = .ok (.aload_n 0, 1) := by decide +kernel
theorem dX9_spillTime_10 : decode cX9_spillTime 10 = .ok (.getfield 23, 3) := by decide +kernel
theorem dX9_spillTime_13 : decode cX9_spillTime 13 = .ok (.getfield 205, 3) := by decide +kernel
theorem dX9_spillTime_16 : decode cX9_spillTime 16 = .ok (.iload_n 1, 1) := by decide +kernel
theorem dX9_spillTime_17 : decode cX9_spillTime 17 = .ok (.invokestatic 141, 3) := by decide +kernel
theorem dX9_spillTime_20 : decode cX9_spillTime 20 = .ok (.ireturn, 1) := by decide +kernel
set_option maxRecDepth 20000 in
theorem ggX9_spillCount_X9_requireSetup : GoodIn wsX9_spillCount wsX9_requireSetup := goodIn_ca (goodIn_r _ [7, 8, 9, 10, 14, 15, 16, 17, 18, 19, 20, 21] (by decide +kernel) (by decide +kernel)) (goodIn_sub (fun _ h => List.mem_cons_of_mem _ (List.mem_append_left _ (List.mem_append_right _ h))) (by decide +kernel))
set_option maxRecDepth 20000 in
theorem gX9_spillCount_X9_requireSetup : GoodIn wsX9_spillCount (wsV RX9 94 RX9 yX9_requireSetup wsX9_requireSetup) := goodIn_app (goodIn_of _ (by decide +kernel)) ggX9_spillCount_X9_requireSetup
set_option maxRecDepth 20000 in
theorem ggX9_spillCount_X9_countMarked : GoodIn wsX9_spillCount wsX9_countMarked := goodIn_ca (goodIn_r _ [13] (by decide +kernel) (by decide +kernel)) (goodIn_sub (fun _ h => List.mem_cons_of_mem _ (List.mem_append_right _ h)) (by decide +kernel))
set_option maxRecDepth 20000 in
theorem gX9_spillCount_X9_countMarked : GoodIn wsX9_spillCount (va_wsS RX9 208 yX9_countMarked wsX9_countMarked) := goodIn_app (goodIn_of _ (by decide +kernel)) ggX9_spillCount_X9_countMarked
theorem dX9_spillCount_0 : decode cX9_spillCount 0 = .ok (.aload_n 0, 1) := by decide +kernel
theorem dX9_spillCount_1 : decode cX9_spillCount 1 = .ok (.invokevirtual 94, 3) := by decide +kernel
theorem dX9_spillCount_4 : decode cX9_spillCount 4 = .ok (.aload_n 0, 1) := by decide +kernel
theorem dX9_spillCount_5 : decode cX9_spillCount 5 = .ok (.getfield 23, 3) := by decide +kernel
theorem dX9_spillCount_8 : decode cX9_spillCount 8 = .ok (.getfield 205, 3) := by decide +kernel
theorem dX9_spillCount_11 : decode cX9_spillCount 11 = .ok (.invokestatic 208, 3) := by decide +kernel
theorem dX9_spillCount_14 : decode cX9_spillCount 14 = .ok (.ireturn, 1) := by decide +kernel
set_option maxRecDepth 20000 in
theorem ggX9_recordCount_X9_requireSetup : GoodIn wsX9_recordCount wsX9_requireSetup := goodIn_ca (goodIn_r _ [8, 9, 10, 11, 12, 13, 14, 15, 16, 17, 18, 19] (by decide +kernel) (by decide +kernel)) (goodIn_sub (fun _ h => List.mem_cons_of_mem _ (List.mem_append_right _ h)) (by decide +kernel))
set_option maxRecDepth 20000 in
theorem gX9_recordCount_X9_requireSetup : GoodIn wsX9_recordCount (wsV RX9 94 RX9 yX9_requireSetup wsX9_requireSetup) := goodIn_app (goodIn_of _ (by decide +kernel)) ggX9_recordCount_X9_requireSetup
theorem dX9_recordCount_0 : decode cX9_recordCount 0 = .ok (.aload_n 0, 1) := by decide +kernel
theorem dX9_recordCount_1 : decode cX9_recordCount 1 = .ok (.invokevirtual 94, 3) := by decide +kernel
theorem dX9_recordCount_4 : decode cX9_recordCount 4 = .ok (.aload_n 0, 1) := by decide +kernel
theorem dX9_recordCount_5 : decode cX9_recordCount 5 = .ok (.getfield 23, 3) := by decide +kernel
theorem dX9_recordCount_8 : decode cX9_recordCount 8 = .ok (.getfield 212, 3) := by decide +kernel
theorem dX9_recordCount_11 : decode cX9_recordCount 11 = .ok (.getfield 216, 3) := by decide +kernel
theorem dX9_recordCount_14 : decode cX9_recordCount 14 = .ok (.ireturn, 1) := by decide +kernel
set_option maxRecDepth 20000 in
theorem ggX9_recordNight_X9_requireSetup : GoodIn wsX9_recordNight wsX9_requireSetup := goodIn_ca (goodIn_r _ [8, 9, 10, 11, 22, 23, 24, 25, 26, 27, 28, 29] (by decide +kernel) (by decide +kernel)) (goodIn_sub (fun _ h => List.mem_cons_of_mem _ (List.mem_append_left _ (List.mem_append_left _ (List.mem_append_right _ h)))) (by decide +kernel))
set_option maxRecDepth 20000 in
theorem gX9_recordNight_X9_requireSetup : GoodIn wsX9_recordNight (wsV RX9 94 RX9 yX9_requireSetup wsX9_requireSetup) := goodIn_app (goodIn_of _ (by decide +kernel)) ggX9_recordNight_X9_requireSetup
set_option maxRecDepth 20000 in
theorem ggX9_recordNight_X9_requireRecord : GoodIn wsX9_recordNight wsX9_requireRecord := goodIn_ca (goodIn_r _ [15, 16, 17, 1, 2, 18, 22, 23, 24, 25, 26, 27, 28, 29, 30, 31, 32, 33, 34, 35, 36, 37, 38, 39, 40, 41, 42, 43, 44, 45, 46] (by decide +kernel) (by decide +kernel)) (goodIn_sub (fun _ h => List.mem_cons_of_mem _ (List.mem_append_left _ (List.mem_append_right _ h))) (by decide +kernel))
set_option maxRecDepth 20000 in
theorem gX9_recordNight_X9_requireRecord : GoodIn wsX9_recordNight (wsV RX9 221 RX9 yX9_requireRecord wsX9_requireRecord) := goodIn_app (goodIn_of _ (by decide +kernel)) ggX9_recordNight_X9_requireRecord
set_option maxRecDepth 20000 in
theorem ggX9_recordNight_X9_at : GoodIn wsX9_recordNight wsX9_at := goodIn_ca (goodIn_r _ [21] (by decide +kernel) (by decide +kernel)) (goodIn_sub (fun _ h => List.mem_cons_of_mem _ (List.mem_append_right _ h)) (by decide +kernel))
set_option maxRecDepth 20000 in
theorem gX9_recordNight_X9_at : GoodIn wsX9_recordNight (va_wsS RX9 141 yX9_at wsX9_at) := goodIn_app (goodIn_of _ (by decide +kernel)) ggX9_recordNight_X9_at
theorem dX9_recordNight_0 : decode cX9_recordNight 0 = .ok (.aload_n 0, 1) := by decide +kernel
theorem dX9_recordNight_1 : decode cX9_recordNight 1 = .ok (.invokevirtual 94, 3) := by decide +kernel
theorem dX9_recordNight_4 : decode cX9_recordNight 4 = .ok (.aload_n 0, 1) := by decide +kernel
theorem dX9_recordNight_5 : decode cX9_recordNight 5 = .ok (.iload_n 1, 1) := by decide +kernel
theorem dX9_recordNight_6 : decode cX9_recordNight 6 = .ok (.invokevirtual 221, 3) := by decide +kernel
theorem dX9_recordNight_9 : decode cX9_recordNight 9 = .ok (.aload_n 0, 1) := by decide +kernel
theorem dX9_recordNight_10 : decode cX9_recordNight 10 = .ok (.getfield 23, 3) := by decide +kernel
theorem dX9_recordNight_13 : decode cX9_recordNight 13 = .ok (.getfield 212, 3) := by decide +kernel
theorem dX9_recordNight_16 : decode cX9_recordNight 16 = .ok (.getfield 224, 3) := by decide +kernel
theorem dX9_recordNight_19 : decode cX9_recordNight 19 = .ok (.iload_n 1, 1) := by decide +kernel
theorem dX9_recordNight_20 : decode cX9_recordNight 20 = .ok (.invokestatic 141, 3) := by decide +kernel
theorem dX9_recordNight_23 : decode cX9_recordNight 23 = .ok (.ireturn, 1) := by decide +kernel
set_option maxRecDepth 20000 in
theorem ggX9_recordSteps_X9_requireSetup : GoodIn wsX9_recordSteps wsX9_requireSetup := goodIn_ca (goodIn_r _ [8, 9, 10, 11, 22, 23, 24, 25, 26, 27, 28, 29] (by decide +kernel) (by decide +kernel)) (goodIn_sub (fun _ h => List.mem_cons_of_mem _ (List.mem_append_left _ (List.mem_append_left _ (List.mem_append_right _ h)))) (by decide +kernel))
set_option maxRecDepth 20000 in
theorem gX9_recordSteps_X9_requireSetup : GoodIn wsX9_recordSteps (wsV RX9 94 RX9 yX9_requireSetup wsX9_requireSetup) := goodIn_app (goodIn_of _ (by decide +kernel)) ggX9_recordSteps_X9_requireSetup
set_option maxRecDepth 20000 in
theorem ggX9_recordSteps_X9_requireRecord : GoodIn wsX9_recordSteps wsX9_requireRecord := goodIn_ca (goodIn_r _ [15, 16, 17, 1, 2, 18, 22, 23, 24, 25, 26, 27, 28, 29, 30, 31, 32, 33, 34, 35, 36, 37, 38, 39, 40, 41, 42, 43, 44, 45, 46] (by decide +kernel) (by decide +kernel)) (goodIn_sub (fun _ h => List.mem_cons_of_mem _ (List.mem_append_left _ (List.mem_append_right _ h))) (by decide +kernel))
set_option maxRecDepth 20000 in
theorem gX9_recordSteps_X9_requireRecord : GoodIn wsX9_recordSteps (wsV RX9 221 RX9 yX9_requireRecord wsX9_requireRecord) := goodIn_app (goodIn_of _ (by decide +kernel)) ggX9_recordSteps_X9_requireRecord
set_option maxRecDepth 20000 in
theorem ggX9_recordSteps_X9_at : GoodIn wsX9_recordSteps wsX9_at := goodIn_ca (goodIn_r _ [21] (by decide +kernel) (by decide +kernel)) (goodIn_sub (fun _ h => List.mem_cons_of_mem _ (List.mem_append_right _ h)) (by decide +kernel))
set_option maxRecDepth 20000 in
theorem gX9_recordSteps_X9_at : GoodIn wsX9_recordSteps (va_wsS RX9 141 yX9_at wsX9_at) := goodIn_app (goodIn_of _ (by decide +kernel)) ggX9_recordSteps_X9_at
theorem dX9_recordSteps_0 : decode cX9_recordSteps 0 = .ok (.aload_n 0, 1) := by decide +kernel
theorem dX9_recordSteps_1 : decode cX9_recordSteps 1 = .ok (.invokevirtual 94, 3) := by decide +kernel
theorem dX9_recordSteps_4 : decode cX9_recordSteps 4 = .ok (.aload_n 0, 1) := by decide +kernel
theorem dX9_recordSteps_5 : decode cX9_recordSteps 5 = .ok (.iload_n 1, 1) := by decide +kernel
theorem dX9_recordSteps_6 : decode cX9_recordSteps 6 = .ok (.invokevirtual 221, 3) := by decide +kernel
theorem dX9_recordSteps_9 : decode cX9_recordSteps 9 = .ok (.aload_n 0, 1) := by decide +kernel
theorem dX9_recordSteps_10 : decode cX9_recordSteps 10 = .ok (.getfield 23, 3) := by decide +kernel
theorem dX9_recordSteps_13 : decode cX9_recordSteps 13 = .ok (.getfield 212, 3) := by decide +kernel
theorem dX9_recordSteps_16 : decode cX9_recordSteps 16 = .ok (.getfield 227, 3) := by decide +kernel
theorem dX9_recordSteps_19 : decode cX9_recordSteps 19 = .ok (.iload_n 1, 1) := by decide +kernel
theorem dX9_recordSteps_20 : decode cX9_recordSteps 20 = .ok (.invokestatic 141, 3) := by decide +kernel
theorem dX9_recordSteps_23 : decode cX9_recordSteps 23 = .ok (.ireturn, 1) := by decide +kernel
set_option maxRecDepth 20000 in
theorem ggX9_rankOf_X9_requireSetup : GoodIn wsX9_rankOf wsX9_requireSetup := goodIn_ca (goodIn_r _ [9, 10, 11, 12, 20, 21, 22, 23, 24, 25, 26, 27] (by decide +kernel) (by decide +kernel)) (goodIn_sub (fun _ h => List.mem_cons_of_mem _ (List.mem_append_left _ (List.mem_append_right _ h))) (by decide +kernel))
set_option maxRecDepth 20000 in
theorem gX9_rankOf_X9_requireSetup : GoodIn wsX9_rankOf (wsV RX9 94 RX9 yX9_requireSetup wsX9_requireSetup) := goodIn_app (goodIn_of _ (by decide +kernel)) ggX9_rankOf_X9_requireSetup
set_option maxRecDepth 20000 in
theorem ggX9_rankOf_X3_rankFor : GoodIn wsX9_rankOf wsX3_rankFor := goodIn_ca (goodIn_r _ [17, 18, 19, 42, 43, 44] (by decide +kernel) (by decide +kernel)) (goodIn_sub (fun _ h => List.mem_cons_of_mem _ (List.mem_append_right _ h)) (by decide +kernel))
set_option maxRecDepth 20000 in
theorem gX9_rankOf_X3_rankFor : GoodIn wsX9_rankOf (wsV RX9 231 RX3 yX3_rankFor wsX3_rankFor) := goodIn_app (goodIn_of _ (by decide +kernel)) ggX9_rankOf_X3_rankFor
theorem dX9_rankOf_0 : decode cX9_rankOf 0 = .ok (.aload_n 0, 1) := by decide +kernel
theorem dX9_rankOf_1 : decode cX9_rankOf 1 = .ok (.invokevirtual 94, 3) := by decide +kernel
theorem dX9_rankOf_4 : decode cX9_rankOf 4 = .ok (.iload_n 1, 1) := by decide +kernel
theorem dX9_rankOf_5 : decode cX9_rankOf 5 = .ok (.iconst 1, 1) := by decide +kernel
theorem dX9_rankOf_6 : decode cX9_rankOf 6 = .ok (.if_icmp .ge 13, 3) := by decide +kernel
theorem dX9_rankOf_9 : decode cX9_rankOf 9 = .ok (.new 73, 3) := by decide +kernel
theorem dX9_rankOf_12 : decode cX9_rankOf 12 = .ok (.dup, 1) := by decide +kernel
theorem dX9_rankOf_13 : decode cX9_rankOf 13 = .ok (.ldc 229, 2) := by decide +kernel
theorem dX9_rankOf_15 : decode cX9_rankOf 15 = .ok (.invokespecial 77, 3) := by decide +kernel
theorem dX9_rankOf_18 : decode cX9_rankOf 18 = .ok (.athrow, 1) := by decide +kernel
theorem dX9_rankOf_19 : decode cX9_rankOf 19 = .ok (.aload_n 0, 1) := by decide +kernel
theorem dX9_rankOf_20 : decode cX9_rankOf 20 = .ok (.getfield 23, 3) := by decide +kernel
theorem dX9_rankOf_23 : decode cX9_rankOf 23 = .ok (.getfield 212, 3) := by decide +kernel
theorem dX9_rankOf_26 : decode cX9_rankOf 26 = .ok (.iload_n 1, 1) := by decide +kernel
theorem dX9_rankOf_27 : decode cX9_rankOf 27 = .ok (.invokevirtual 231, 3) := by decide +kernel
theorem dX9_rankOf_30 : decode cX9_rankOf 30 = .ok (.istore_n 2, 1) := by decide +kernel
theorem dX9_rankOf_31 : decode cX9_rankOf 31 = .ok (.iload_n 2, 1) := by decide +kernel
theorem dX9_rankOf_32 : decode cX9_rankOf 32 = .ok (.bipush 10, 2) := by decide +kernel
theorem dX9_rankOf_34 : decode cX9_rankOf 34 = .ok (.if_icmp .ge 7, 3) := by decide +kernel
theorem dX9_rankOf_37 : decode cX9_rankOf 37 = .ok (.iload_n 2, 1) := by decide +kernel
theorem dX9_rankOf_38 : decode cX9_rankOf 38 = .ok (.goto 4, 3) := by decide +kernel
theorem dX9_rankOf_41 : decode cX9_rankOf 41 = .ok (.iconst (-1), 1) := by decide +kernel
theorem dX9_rankOf_42 : decode cX9_rankOf 42 = .ok (.ireturn, 1) := by decide +kernel
set_option maxRecDepth 20000 in
theorem ggX9_imbalance_X9_requireSetup : GoodIn wsX9_imbalance wsX9_requireSetup := goodIn_ca (goodIn_r _ [10, 11, 12, 13, 17, 18, 19, 20, 21, 22, 23, 24] (by decide +kernel) (by decide +kernel)) (goodIn_sub (fun _ h => List.mem_cons_of_mem _ (List.mem_append_left _ (List.mem_append_right _ h))) (by decide +kernel))
set_option maxRecDepth 20000 in
theorem gX9_imbalance_X9_requireSetup : GoodIn wsX9_imbalance (wsV RX9 94 RX9 yX9_requireSetup wsX9_requireSetup) := goodIn_app (goodIn_of _ (by decide +kernel)) ggX9_imbalance_X9_requireSetup
set_option maxRecDepth 20000 in
theorem ggX9_imbalance_X9_sum : GoodIn wsX9_imbalance wsX9_sum := goodIn_ca (goodIn_r _ [16] (by decide +kernel) (by decide +kernel)) (goodIn_sub (fun _ h => List.mem_cons_of_mem _ (List.mem_append_right _ h)) (by decide +kernel))
set_option maxRecDepth 20000 in
theorem gX9_imbalance_X9_sum : GoodIn wsX9_imbalance (va_wsS RX9 235 yX9_sum wsX9_sum) := goodIn_app (goodIn_of _ (by decide +kernel)) ggX9_imbalance_X9_sum
theorem dX9_imbalance_0 : decode cX9_imbalance 0 = .ok (.aload_n 0, 1) := by decide +kernel
theorem dX9_imbalance_1 : decode cX9_imbalance 1 = .ok (.invokevirtual 94, 3) := by decide +kernel
theorem dX9_imbalance_4 : decode cX9_imbalance 4 = .ok (.aload_n 0, 1) := by decide +kernel
theorem dX9_imbalance_5 : decode cX9_imbalance 5 = .ok (.getfield 23, 3) := by decide +kernel
theorem dX9_imbalance_8 : decode cX9_imbalance 8 = .ok (.getfield 190, 3) := by decide +kernel
theorem dX9_imbalance_11 : decode cX9_imbalance 11 = .ok (.invokestatic 235, 3) := by decide +kernel
theorem dX9_imbalance_14 : decode cX9_imbalance 14 = .ok (.aload_n 0, 1) := by decide +kernel
theorem dX9_imbalance_15 : decode cX9_imbalance 15 = .ok (.getfield 23, 3) := by decide +kernel
theorem dX9_imbalance_18 : decode cX9_imbalance 18 = .ok (.getfield 157, 3) := by decide +kernel
theorem dX9_imbalance_21 : decode cX9_imbalance 21 = .ok (.getfield 175, 3) := by decide +kernel
theorem dX9_imbalance_24 : decode cX9_imbalance 24 = .ok (.isub, 1) := by decide +kernel
theorem dX9_imbalance_25 : decode cX9_imbalance 25 = .ok (.istore_n 1, 1) := by decide +kernel
theorem dX9_imbalance_26 : decode cX9_imbalance 26 = .ok (.aload_n 0, 1) := by decide +kernel
theorem dX9_imbalance_27 : decode cX9_imbalance 27 = .ok (.getfield 23, 3) := by decide +kernel
theorem dX9_imbalance_30 : decode cX9_imbalance 30 = .ok (.getfield 157, 3) := by decide +kernel
theorem dX9_imbalance_33 : decode cX9_imbalance 33 = .ok (.getfield 178, 3) := by decide +kernel
theorem dX9_imbalance_36 : decode cX9_imbalance 36 = .ok (.aload_n 0, 1) := by decide +kernel
theorem dX9_imbalance_37 : decode cX9_imbalance 37 = .ok (.getfield 23, 3) := by decide +kernel
theorem dX9_imbalance_40 : decode cX9_imbalance 40 = .ok (.getfield 157, 3) := by decide +kernel
theorem dX9_imbalance_43 : decode cX9_imbalance 43 = .ok (.getfield 175, 3) := by decide +kernel
theorem dX9_imbalance_46 : decode cX9_imbalance 46 = .ok (.if_icmp .le 7, 3) := by decide +kernel
theorem dX9_imbalance_49 : decode cX9_imbalance 49 = .ok (.iconst 1, 1) := by decide +kernel
theorem dX9_imbalance_50 : decode cX9_imbalance 50 = .ok (.goto 4, 3) := by decide +kernel
theorem dX9_imbalance_53 : decode cX9_imbalance 53 = .ok (.iconst 0, 1) := by decide +kernel
theorem dX9_imbalance_54 : decode cX9_imbalance 54 = .ok (.istore_n 2, 1) := by decide +kernel
theorem dX9_imbalance_55 : decode cX9_imbalance 55 = .ok (.iload_n 1, 1) := by decide +kernel
theorem dX9_imbalance_56 : decode cX9_imbalance 56 = .ok (.ifCond .ge 8, 3) := by decide +kernel
theorem dX9_imbalance_59 : decode cX9_imbalance 59 = .ok (.iload_n 1, 1) := by decide +kernel
theorem dX9_imbalance_60 : decode cX9_imbalance 60 = .ok (.ineg, 1) := by decide +kernel
theorem dX9_imbalance_61 : decode cX9_imbalance 61 = .ok (.goto 4, 3) := by decide +kernel
theorem dX9_imbalance_64 : decode cX9_imbalance 64 = .ok (.iload_n 1, 1) := by decide +kernel
theorem dX9_imbalance_65 : decode cX9_imbalance 65 = .ok (.iload_n 2, 1) := by decide +kernel
theorem dX9_imbalance_66 : decode cX9_imbalance 66 = .ok (.iadd, 1) := by decide +kernel
theorem dX9_imbalance_67 : decode cX9_imbalance 67 = .ok (.ireturn, 1) := by decide +kernel
set_option maxRecDepth 20000 in
theorem ggX9_averageWear_X9_requireSetup : GoodIn wsX9_averageWear wsX9_requireSetup := goodIn_ca (goodIn_r _ [7, 8, 9, 10, 22, 23, 24, 25, 26, 27, 28, 29] (by decide +kernel) (by decide +kernel)) (goodIn_sub (fun _ h => List.mem_cons_of_mem _ (List.mem_append_left _ (List.mem_append_right _ h))) (by decide +kernel))
set_option maxRecDepth 20000 in
theorem gX9_averageWear_X9_requireSetup : GoodIn wsX9_averageWear (wsV RX9 94 RX9 yX9_requireSetup wsX9_requireSetup) := goodIn_app (goodIn_of _ (by decide +kernel)) ggX9_averageWear_X9_requireSetup
set_option maxRecDepth 20000 in
theorem ggX9_averageWear_X8_tileCount : GoodIn wsX9_averageWear wsX8_tileCount := goodIn_r _ [15, 16, 17, 18, 30, 31, 32, 33, 34, 35, 36, 37, 38, 39, 40, 41, 42, 43, 44, 45, 46, 47, 48, 49, 50, 51, 52, 53, 54, 55, 56] (by decide +kernel) (by decide +kernel)
set_option maxRecDepth 20000 in
theorem gX9_averageWear_X8_tileCount : GoodIn wsX9_averageWear (wsV RX9 84 RX8 yX8_tileCount wsX8_tileCount) := goodIn_app (goodIn_of _ (by decide +kernel)) ggX9_averageWear_X8_tileCount
set_option maxRecDepth 20000 in
theorem ggX9_averageWear_X9_sum : GoodIn wsX9_averageWear wsX9_sum := goodIn_ca (goodIn_r _ [21] (by decide +kernel) (by decide +kernel)) (goodIn_sub (fun _ h => List.mem_cons_of_mem _ (List.mem_append_right _ h)) (by decide +kernel))
set_option maxRecDepth 20000 in
theorem gX9_averageWear_X9_sum : GoodIn wsX9_averageWear (va_wsS RX9 235 yX9_sum wsX9_sum) := goodIn_app (goodIn_of _ (by decide +kernel)) ggX9_averageWear_X9_sum
theorem dX9_averageWear_0 : decode cX9_averageWear 0 = .ok (.aload_n 0, 1) := by decide +kernel
theorem dX9_averageWear_1 : decode cX9_averageWear 1 = .ok (.invokevirtual 94, 3) := by decide +kernel
theorem dX9_averageWear_4 : decode cX9_averageWear 4 = .ok (.aload_n 0, 1) := by decide +kernel
theorem dX9_averageWear_5 : decode cX9_averageWear 5 = .ok (.getfield 23, 3) := by decide +kernel
theorem dX9_averageWear_8 : decode cX9_averageWear 8 = .ok (.invokevirtual 84, 3) := by decide +kernel
theorem dX9_averageWear_11 : decode cX9_averageWear 11 = .ok (.istore_n 1, 1) := by decide +kernel
theorem dX9_averageWear_12 : decode cX9_averageWear 12 = .ok (.iload_n 1, 1) := by decide +kernel
theorem dX9_averageWear_13 : decode cX9_averageWear 13 = .ok (.ifCond .le 20, 3) := by decide +kernel
theorem dX9_averageWear_16 : decode cX9_averageWear 16 = .ok (.aload_n 0, 1) := by decide +kernel
theorem dX9_averageWear_17 : decode cX9_averageWear 17 = .ok (.getfield 23, 3) := by decide +kernel
theorem dX9_averageWear_20 : decode cX9_averageWear 20 = .ok (.getfield 190, 3) := by decide +kernel
theorem dX9_averageWear_23 : decode cX9_averageWear 23 = .ok (.invokestatic 235, 3) := by decide +kernel
theorem dX9_averageWear_26 : decode cX9_averageWear 26 = .ok (.i2d, 1) := by decide +kernel
theorem dX9_averageWear_27 : decode cX9_averageWear 27 = .ok (.iload_n 1, 1) := by decide +kernel
theorem dX9_averageWear_28 : decode cX9_averageWear 28 = .ok (.i2d, 1) := by decide +kernel
theorem dX9_averageWear_29 : decode cX9_averageWear 29 = .ok (.ddiv, 1) := by decide +kernel
theorem dX9_averageWear_30 : decode cX9_averageWear 30 = .ok (.goto 4, 3) := by decide +kernel
theorem dX9_averageWear_33 : decode cX9_averageWear 33 = .ok (.dconst 0, 1) := by decide +kernel
theorem dX9_averageWear_34 : decode cX9_averageWear 34 = .ok (.dreturn, 1) := by decide +kernel
set_option maxRecDepth 20000 in
theorem ggX9_litShare_X9_requireSetup : GoodIn wsX9_litShare wsX9_requireSetup := goodIn_ca (goodIn_r _ [6, 7, 8, 9, 60, 61, 62, 63, 64, 65, 66, 67] (by decide +kernel) (by decide +kernel)) (goodIn_sub (fun _ h => List.mem_cons_of_mem _ (List.mem_append_left _ (List.mem_append_right _ h))) (by decide +kernel))
set_option maxRecDepth 20000 in
theorem gX9_litShare_X9_requireSetup : GoodIn wsX9_litShare (wsV RX9 94 RX9 yX9_requireSetup wsX9_requireSetup) := goodIn_app (goodIn_of _ (by decide +kernel)) ggX9_litShare_X9_requireSetup
set_option maxRecDepth 20000 in
theorem ggX9_litShare_X8_tileCount : GoodIn wsX9_litShare wsX8_tileCount := goodIn_r _ [14, 15, 16, 17, 68, 69, 70, 71, 72, 73, 74, 75, 76, 77, 78, 79, 80, 81, 82, 83, 84, 85, 86, 87, 88, 89, 90, 91, 92, 93, 94] (by decide +kernel) (by decide +kernel)
set_option maxRecDepth 20000 in
theorem gX9_litShare_X8_tileCount : GoodIn wsX9_litShare (wsV RX9 84 RX8 yX8_tileCount wsX8_tileCount) := goodIn_app (goodIn_of _ (by decide +kernel)) ggX9_litShare_X8_tileCount
set_option maxRecDepth 20000 in
theorem ggX9_litShare_X8_isTileLit : GoodIn wsX9_litShare wsX8_isTileLit := goodIn_ca (goodIn_r _ [21, 22, 23, 24, 13, 25, 15, 26, 27, 28, 29, 30, 31, 32, 33, 34, 35, 36, 37, 38, 39, 40, 41, 42, 43, 44, 45, 46, 47, 48, 17, 49, 50, 51, 52, 53, 54, 55, 56, 57, 58, 5, 59, 68, 69, 70, 71, 72, 73, 74, 75, 76, 77, 78, 79, 80, 81, 82, 83, 84, 85, 86, 87, 88, 89, 90, 91, 92, 93, 94] (by decide +kernel) (by decide +kernel)) (goodIn_sub (fun _ h => List.mem_cons_of_mem _ (List.mem_append_right _ h)) (by decide +kernel))
set_option maxRecDepth 20000 in
theorem gX9_litShare_X8_isTileLit : GoodIn wsX9_litShare (wsV RX9 131 RX8 yX8_isTileLit wsX8_isTileLit) := goodIn_app (goodIn_of _ (by decide +kernel)) ggX9_litShare_X8_isTileLit
theorem dX9_litShare_0 : decode cX9_litShare 0 = .ok (.aload_n 0, 1) := by decide +kernel
theorem dX9_litShare_1 : decode cX9_litShare 1 = .ok (.invokevirtual 94, 3) := by decide +kernel
theorem dX9_litShare_4 : decode cX9_litShare 4 = .ok (.aload_n 0, 1) := by decide +kernel
theorem dX9_litShare_5 : decode cX9_litShare 5 = .ok (.getfield 23, 3) := by decide +kernel
theorem dX9_litShare_8 : decode cX9_litShare 8 = .ok (.invokevirtual 84, 3) := by decide +kernel
theorem dX9_litShare_11 : decode cX9_litShare 11 = .ok (.istore_n 1, 1) := by decide +kernel
theorem dX9_litShare_12 : decode cX9_litShare 12 = .ok (.iconst 0, 1) := by decide +kernel
theorem dX9_litShare_13 : decode cX9_litShare 13 = .ok (.istore_n 2, 1) := by decide +kernel
theorem dX9_litShare_14 : decode cX9_litShare 14 = .ok (.iconst 0, 1) := by decide +kernel
theorem dX9_litShare_15 : decode cX9_litShare 15 = .ok (.istore_n 3, 1) := by decide +kernel
theorem dX9_litShare_16 : decode cX9_litShare 16 = .ok (.iload_n 3, 1) := by decide +kernel
theorem dX9_litShare_17 : decode cX9_litShare 17 = .ok (.iload_n 1, 1) := by decide +kernel
theorem dX9_litShare_18 : decode cX9_litShare 18 = .ok (.if_icmp .ge 23, 3) := by decide +kernel
theorem dX9_litShare_21 : decode cX9_litShare 21 = .ok (.aload_n 0, 1) := by decide +kernel
theorem dX9_litShare_22 : decode cX9_litShare 22 = .ok (.getfield 23, 3) := by decide +kernel
theorem dX9_litShare_25 : decode cX9_litShare 25 = .ok (.iload_n 3, 1) := by decide +kernel
theorem dX9_litShare_26 : decode cX9_litShare 26 = .ok (.invokevirtual 131, 3) := by decide +kernel
theorem dX9_litShare_29 : decode cX9_litShare 29 = .ok (.ifCond .eq 6, 3) := by decide +kernel
theorem dX9_litShare_32 : decode cX9_litShare 32 = .ok (.iinc 2 1, 3) := by decide +kernel
theorem dX9_litShare_35 : decode cX9_litShare 35 = .ok (.iinc 3 1, 3) := by decide +kernel
theorem dX9_litShare_38 : decode cX9_litShare 38 = .ok (.goto (-22), 3) := by decide +kernel
theorem dX9_litShare_41 : decode cX9_litShare 41 = .ok (.iload_n 1, 1) := by decide +kernel
theorem dX9_litShare_42 : decode cX9_litShare 42 = .ok (.ifCond .le 11, 3) := by decide +kernel
theorem dX9_litShare_45 : decode cX9_litShare 45 = .ok (.iload_n 2, 1) := by decide +kernel
theorem dX9_litShare_46 : decode cX9_litShare 46 = .ok (.i2f, 1) := by decide +kernel
theorem dX9_litShare_47 : decode cX9_litShare 47 = .ok (.iload_n 1, 1) := by decide +kernel
theorem dX9_litShare_48 : decode cX9_litShare 48 = .ok (.i2f, 1) := by decide +kernel
theorem dX9_litShare_49 : decode cX9_litShare 49 = .ok (.fdiv, 1) := by decide +kernel
theorem dX9_litShare_50 : decode cX9_litShare 50 = .ok (.goto 4, 3) := by decide +kernel
theorem dX9_litShare_53 : decode cX9_litShare 53 = .ok (.fconst 0, 1) := by decide +kernel
theorem dX9_litShare_54 : decode cX9_litShare 54 = .ok (.freturn, 1) := by decide +kernel
set_option maxRecDepth 20000 in
theorem ggX9_stepsAfter_X9_requireSetup : GoodIn wsX9_stepsAfter wsX9_requireSetup := goodIn_ca (goodIn_r _ [7, 8, 9, 10, 253, 254, 255, 256, 257, 258, 259, 260] (by decide +kernel) (by decide +kernel)) (goodIn_sub (fun _ h => List.mem_cons_of_mem _ (List.mem_append_left _ (List.mem_append_left _ (List.mem_append_right _ h)))) (by decide +kernel))
set_option maxRecDepth 20000 in
theorem gX9_stepsAfter_X9_requireSetup : GoodIn wsX9_stepsAfter (wsV RX9 94 RX9 yX9_requireSetup wsX9_requireSetup) := goodIn_app (goodIn_of _ (by decide +kernel)) ggX9_stepsAfter_X9_requireSetup
set_option maxRecDepth 20000 in
theorem ggX9_stepsAfter_X9_requireForetellable : GoodIn wsX9_stepsAfter wsX9_requireForetellable := goodIn_ca (goodIn_r _ [14, 15, 16] (by decide +kernel) (by decide +kernel)) (goodIn_sub (fun _ h => List.mem_cons_of_mem _ (List.mem_append_left _ (List.mem_append_right _ h))) (by decide +kernel))
set_option maxRecDepth 20000 in
theorem gX9_stepsAfter_X9_requireForetellable : GoodIn wsX9_stepsAfter (wsV RX9 238 RX9 yX9_requireForetellable wsX9_requireForetellable) := goodIn_app (goodIn_of _ (by decide +kernel)) ggX9_stepsAfter_X9_requireForetellable
set_option maxRecDepth 20000 in
theorem ggX9_stepsAfter_X9_foretellSteps : GoodIn wsX9_stepsAfter wsX9_foretellSteps := goodIn_ca (goodIn_r _ [20, 21, 1, 2, 22, 23, 24, 25, 26, 27, 28, 29, 30, 31, 32, 33, 34, 35, 36, 37, 38, 39, 40, 41, 42, 43, 44, 45, 46, 47, 48, 49, 50, 51, 52, 53, 54, 55, 56, 57, 58, 59, 60, 61, 6, 62, 63, 64, 65, 66, 67, 68, 69, 70, 71, 72, 73, 74, 75, 76, 77, 78, 79, 80, 81, 82, 83, 84, 85, 86, 87, 88, 89, 90, 91, 92, 93, 94, 95, 96, 97, 98, 99, 100, 101, 102, 103, 104, 105, 106, 107, 108, 109, 110, 111, 112, 113, 114, 115, 116, 117, 118, 119, 120, 121, 122, 123, 124, 125, 126, 127, 128, 129, 130, 131, 132, 133, 134, 135, 136, 137, 138, 139, 140, 141, 142, 143, 144, 145, 146, 147, 148, 149, 150, 151, 152, 153, 154, 155, 156, 157, 158, 159, 160, 161, 162, 163, 164, 165, 166, 167, 168, 169, 170, 171, 172, 173, 174, 175, 176, 177, 178, 179, 180, 181, 182, 183, 184, 185, 186, 187, 188, 189, 190, 191, 192, 193, 194, 195, 196, 197, 198, 199, 200, 201, 202, 203, 204, 205, 206, 207, 208, 209, 210, 211, 212, 213, 214, 215, 216, 217, 218, 219, 220, 221, 222, 223, 224, 225, 226, 227, 228, 229, 230, 231, 232, 233, 234, 235, 236, 237, 238, 239, 240, 241, 242, 243, 244, 245, 246, 247, 248, 249, 250, 251, 252, 253, 254, 255, 256, 257, 258, 259, 260, 261, 262, 263, 264, 265, 266, 267, 268, 269, 270, 271, 272, 273, 274, 275, 276, 277, 278, 279, 280, 281, 282, 283, 284, 285, 286, 287, 288, 289, 290, 291, 292, 293, 294, 295, 296, 297, 298, 299] (by decide +kernel) (by decide +kernel)) (goodIn_sub (fun _ h => List.mem_cons_of_mem _ (List.mem_append_right _ h)) (by decide +kernel))
set_option maxRecDepth 20000 in
theorem gX9_stepsAfter_X9_foretellSteps : GoodIn wsX9_stepsAfter (wsV RX9 241 RX9 yX9_foretellSteps wsX9_foretellSteps) := goodIn_app (goodIn_of _ (by decide +kernel)) ggX9_stepsAfter_X9_foretellSteps
theorem dX9_stepsAfter_0 : decode cX9_stepsAfter 0 = .ok (.aload_n 0, 1) := by decide +kernel
theorem dX9_stepsAfter_1 : decode cX9_stepsAfter 1 = .ok (.invokevirtual 94, 3) := by decide +kernel
theorem dX9_stepsAfter_4 : decode cX9_stepsAfter 4 = .ok (.aload_n 0, 1) := by decide +kernel
theorem dX9_stepsAfter_5 : decode cX9_stepsAfter 5 = .ok (.iload_n 1, 1) := by decide +kernel
theorem dX9_stepsAfter_6 : decode cX9_stepsAfter 6 = .ok (.invokevirtual 238, 3) := by decide +kernel
theorem dX9_stepsAfter_9 : decode cX9_stepsAfter 9 = .ok (.aload_n 0, 1) := by decide +kernel
theorem dX9_stepsAfter_10 : decode cX9_stepsAfter 10 = .ok (.aload_n 0, 1) := by decide +kernel
theorem dX9_stepsAfter_11 : decode cX9_stepsAfter 11 = .ok (.getfield 23, 3) := by decide +kernel
theorem dX9_stepsAfter_14 : decode cX9_stepsAfter 14 = .ok (.getfield 151, 3) := by decide +kernel
theorem dX9_stepsAfter_17 : decode cX9_stepsAfter 17 = .ok (.iload_n 1, 1) := by decide +kernel
theorem dX9_stepsAfter_18 : decode cX9_stepsAfter 18 = .ok (.invokevirtual 241, 3) := by decide +kernel
theorem dX9_stepsAfter_21 : decode cX9_stepsAfter 21 = .ok (.ireturn, 1) := by decide +kernel
set_option maxRecDepth 20000 in
theorem ggX9_walkerTileAfter_X9_requireSetup : GoodIn wsX9_walkerTileAfter wsX9_requireSetup := goodIn_ca (goodIn_r _ [9, 10, 11, 12, 248, 249, 250, 251, 252, 253, 254, 255] (by decide +kernel) (by decide +kernel)) (goodIn_sub (fun _ h => List.mem_cons_of_mem _ (List.mem_append_left _ (List.mem_append_left _ (List.mem_append_right _ h)))) (by decide +kernel))
set_option maxRecDepth 20000 in
theorem gX9_walkerTileAfter_X9_requireSetup : GoodIn wsX9_walkerTileAfter (wsV RX9 94 RX9 yX9_requireSetup wsX9_requireSetup) := goodIn_app (goodIn_of _ (by decide +kernel)) ggX9_walkerTileAfter_X9_requireSetup
set_option maxRecDepth 20000 in
theorem ggX9_walkerTileAfter_X9_requireForetellable : GoodIn wsX9_walkerTileAfter wsX9_requireForetellable := goodIn_ca (goodIn_r _ [16, 17, 18] (by decide +kernel) (by decide +kernel)) (goodIn_sub (fun _ h => List.mem_cons_of_mem _ (List.mem_append_left _ (List.mem_append_right _ h))) (by decide +kernel))
set_option maxRecDepth 20000 in
theorem gX9_walkerTileAfter_X9_requireForetellable : GoodIn wsX9_walkerTileAfter (wsV RX9 238 RX9 yX9_requireForetellable wsX9_requireForetellable) := goodIn_app (goodIn_of _ (by decide +kernel)) ggX9_walkerTileAfter_X9_requireForetellable
set_option maxRecDepth 20000 in
theorem ggX9_walkerTileAfter_X8_copyFrom : GoodIn wsX9_walkerTileAfter wsX8_copyFrom := goodIn_r _ [23, 24, 25, 26, 27, 28, 29, 30, 31, 32, 33, 34, 35, 36, 37, 38, 39, 40, 41, 42, 43, 44, 45, 46, 47, 48, 49, 50, 51, 52, 53, 54, 55, 56, 8, 57, 58, 59, 60, 61, 62, 63, 64, 65, 66, 67, 68, 69, 70, 71, 72, 73, 74, 75, 76, 77, 78, 79, 80, 81, 82, 83, 84, 85, 86, 87, 256, 257, 258, 259, 260, 261, 262, 263, 264, 265, 266, 267, 268, 269, 279, 280, 281, 282, 283, 284, 285, 286, 287, 288, 289, 290, 291, 270, 271, 272, 273, 274, 275, 276, 277, 278, 292, 293, 294] (by decide +kernel) (by decide +kernel)
set_option maxRecDepth 20000 in
theorem gX9_walkerTileAfter_X8_copyFrom : GoodIn wsX9_walkerTileAfter (wsV RX9 78 RX8 yX8_copyFrom wsX8_copyFrom) := goodIn_app (goodIn_of _ (by decide +kernel)) ggX9_walkerTileAfter_X8_copyFrom
set_option maxRecDepth 20000 in
theorem ggX9_walkerTileAfter_X8_passMinutes : GoodIn wsX9_walkerTileAfter wsX8_passMinutes := goodIn_ca (goodIn_r _ [91, 92, 93, 94, 22, 95, 30, 36, 25, 96, 97, 34, 98, 99, 100, 101, 24, 102, 103, 37, 29, 104, 8, 105, 106, 107, 108, 109, 110, 111, 112, 113, 114, 115, 116, 117, 118, 119, 120, 121, 122, 123, 69, 124, 79, 74, 75, 125, 126, 127, 128, 129, 130, 60, 131, 132, 133, 134, 135, 136, 137, 138, 139, 140, 141, 142, 143, 144, 145, 146, 147, 148, 149, 32, 150, 59, 61, 151, 152, 153, 154, 155, 156, 157, 158, 33, 159, 160, 161, 41, 162, 54, 44, 45, 163, 164, 165, 166, 167, 168, 169, 170, 171, 172, 27, 173, 174, 175, 176, 73, 78, 177, 178, 179, 180, 31, 35, 181, 182, 183, 184, 185, 186, 187, 188, 28, 189, 190, 191, 192, 76, 77, 193, 194, 195, 196, 197, 198, 199, 200, 201, 202, 203, 204, 205, 206, 207, 208, 209, 210, 211, 212, 213, 214, 215, 216, 217, 26, 218, 219, 220, 83, 221, 87, 222, 85, 86, 223, 224, 225, 226, 227, 228, 229, 230, 231, 232, 233, 234, 235, 236, 237, 238, 239, 240, 241, 242, 243, 244, 245, 246, 247, 256, 257, 258, 259, 260, 261, 262, 263, 264, 265, 266, 267, 268, 269, 270, 271, 272, 273, 274, 275, 276, 277, 278, 279, 280, 281, 282, 283, 284, 285, 286, 287, 288, 289, 290, 291, 292, 293, 294] (by decide +kernel) (by decide +kernel)) (goodIn_sub (fun _ h => List.mem_cons_of_mem _ (List.mem_append_right _ h)) (by decide +kernel))
set_option maxRecDepth 20000 in
theorem gX9_walkerTileAfter_X8_passMinutes : GoodIn wsX9_walkerTileAfter (wsV RX9 245 RX8 yX8_passMinutes wsX8_passMinutes) := goodIn_app (goodIn_of _ (by decide +kernel)) ggX9_walkerTileAfter_X8_passMinutes
theorem dX9_walkerTileAfter_0 : decode cX9_walkerTileAfter 0 = .ok (.aload_n 0, 1) := by decide +kernel
theorem dX9_walkerTileAfter_1 : decode cX9_walkerTileAfter 1 = .ok (.invokevirtual 94, 3) := by decide +kernel
theorem dX9_walkerTileAfter_4 : decode cX9_walkerTileAfter 4 = .ok (.aload_n 0, 1) := by decide +kernel
theorem dX9_walkerTileAfter_5 : decode cX9_walkerTileAfter 5 = .ok (.iload_n 1, 1) := by decide +kernel
theorem dX9_walkerTileAfter_6 : decode cX9_walkerTileAfter 6 = .ok (.invokevirtual 238, 3) := by decide +kernel
theorem dX9_walkerTileAfter_9 : decode cX9_walkerTileAfter 9 = .ok (.aload_n 0, 1) := by decide +kernel
theorem dX9_walkerTileAfter_10 : decode cX9_walkerTileAfter 10 = .ok (.getfield 27, 3) := by decide +kernel
theorem dX9_walkerTileAfter_13 : decode cX9_walkerTileAfter 13 = .ok (.aload_n 0, 1) := by decide +kernel
theorem dX9_walkerTileAfter_14 : decode cX9_walkerTileAfter 14 = .ok (.getfield 23, 3) := by decide +kernel
theorem dX9_walkerTileAfter_17 : decode cX9_walkerTileAfter 17 = .ok (.invokevirtual 78, 3) := by decide +kernel
theorem dX9_walkerTileAfter_20 : decode cX9_walkerTileAfter 20 = .ok (.aload_n 0, 1) := by decide +kernel
theorem dX9_walkerTileAfter_21 : decode cX9_walkerTileAfter 21 = .ok (.getfield 27, 3) := by decide +kernel
theorem dX9_walkerTileAfter_24 : decode cX9_walkerTileAfter 24 = .ok (.iload_n 1, 1) := by decide +kernel
theorem dX9_walkerTileAfter_25 : decode cX9_walkerTileAfter 25 = .ok (.invokevirtual 245, 3) := by decide +kernel
theorem dX9_walkerTileAfter_28 : decode cX9_walkerTileAfter 28 = .ok (.aload_n 0, 1) := by decide +kernel
theorem dX9_walkerTileAfter_29 : decode cX9_walkerTileAfter 29 = .ok (.getfield 27, 3) := by decide +kernel
theorem dX9_walkerTileAfter_32 : decode cX9_walkerTileAfter 32 = .ok (.getfield 157, 3) := by decide +kernel
theorem dX9_walkerTileAfter_35 : decode cX9_walkerTileAfter 35 = .ok (.getfield 161, 3) := by decide +kernel
theorem dX9_walkerTileAfter_38 : decode cX9_walkerTileAfter 38 = .ok (.ireturn, 1) := by decide +kernel
set_option maxRecDepth 20000 in
theorem ggX9_spillTimeAfter_X9_requireSetup : GoodIn wsX9_spillTimeAfter wsX9_requireSetup := goodIn_ca (goodIn_r _ [8, 9, 10, 11, 255, 256, 257, 258, 259, 260, 261, 262] (by decide +kernel) (by decide +kernel)) (goodIn_sub (fun _ h => List.mem_cons_of_mem _ (List.mem_append_left _ (List.mem_append_left _ (List.mem_append_left _ (List.mem_append_right _ h))))) (by decide +kernel))
set_option maxRecDepth 20000 in
theorem gX9_spillTimeAfter_X9_requireSetup : GoodIn wsX9_spillTimeAfter (wsV RX9 94 RX9 yX9_requireSetup wsX9_requireSetup) := goodIn_app (goodIn_of _ (by decide +kernel)) ggX9_spillTimeAfter_X9_requireSetup
set_option maxRecDepth 20000 in
theorem ggX9_spillTimeAfter_X9_requireTile : GoodIn wsX9_spillTimeAfter wsX9_requireTile := goodIn_ca (goodIn_r _ [15, 16, 17, 2, 18, 19, 20, 21, 22, 23, 24, 25, 255, 256, 257, 258, 259, 260, 261, 262, 263, 264, 265, 266, 267, 268, 269, 270, 271, 272, 273, 274, 275, 276, 277, 278, 279, 280, 281, 282, 283, 284, 285, 286, 287, 288, 289] (by decide +kernel) (by decide +kernel)) (goodIn_sub (fun _ h => List.mem_cons_of_mem _ (List.mem_append_left _ (List.mem_append_left _ (List.mem_append_right _ h)))) (by decide +kernel))
set_option maxRecDepth 20000 in
theorem gX9_spillTimeAfter_X9_requireTile : GoodIn wsX9_spillTimeAfter (wsV RX9 128 RX9 yX9_requireTile wsX9_requireTile) := goodIn_app (goodIn_of _ (by decide +kernel)) ggX9_spillTimeAfter_X9_requireTile
set_option maxRecDepth 20000 in
theorem ggX9_spillTimeAfter_X9_requireForetellable : GoodIn wsX9_spillTimeAfter wsX9_requireForetellable := goodIn_ca (goodIn_r _ [29, 30, 31] (by decide +kernel) (by decide +kernel)) (goodIn_sub (fun _ h => List.mem_cons_of_mem _ (List.mem_append_left _ (List.mem_append_right _ h))) (by decide +kernel))
set_option maxRecDepth 20000 in
theorem gX9_spillTimeAfter_X9_requireForetellable : GoodIn wsX9_spillTimeAfter (wsV RX9 238 RX9 yX9_requireForetellable wsX9_requireForetellable) := goodIn_app (goodIn_of _ (by decide +kernel)) ggX9_spillTimeAfter_X9_requireForetellable
set_option maxRecDepth 20000 in
theorem ggX9_spillTimeAfter_X8_copyFrom : GoodIn wsX9_spillTimeAfter wsX8_copyFrom := goodIn_r _ [35, 23, 36, 37, 38, 39, 40, 41, 42, 43, 44, 45, 46, 47, 48, 49, 50, 51, 52, 53, 54, 55, 56, 57, 58, 59, 60, 61, 62, 63, 64, 65, 66, 67, 7, 68, 69, 70, 71, 72, 73, 74, 75, 76, 77, 78, 79, 80, 81, 82, 83, 84, 85, 86, 87, 88, 89, 90, 91, 92, 93, 94, 95, 96, 97, 98, 263, 264, 265, 266, 267, 268, 269, 270, 271, 272, 273, 274, 275, 276, 277, 278, 279, 280, 281, 282, 283, 284, 285, 286, 287, 288, 289, 290, 291, 292, 293, 294, 295, 296, 297, 298, 299, 300, 301] (by decide +kernel) (by decide +kernel)
set_option maxRecDepth 20000 in
theorem gX9_spillTimeAfter_X8_copyFrom : GoodIn wsX9_spillTimeAfter (wsV RX9 78 RX8 yX8_copyFrom wsX8_copyFrom) := goodIn_app (goodIn_of _ (by decide +kernel)) ggX9_spillTimeAfter_X8_copyFrom
set_option maxRecDepth 20000 in
theorem ggX9_spillTimeAfter_X8_passMinutes : GoodIn wsX9_spillTimeAfter wsX8_passMinutes := goodIn_ca (goodIn_r _ [102, 103, 104, 105, 21, 106, 41, 47, 36, 107, 108, 45, 109, 110, 111, 112, 23, 113, 114, 48, 40, 115, 7, 116, 117, 118, 119, 120, 25, 24, 121, 122, 123, 124, 125, 126, 127, 128, 129, 130, 131, 132, 80, 133, 90, 85, 86, 134, 135, 136, 137, 138, 139, 71, 140, 141, 142, 143, 144, 145, 146, 147, 148, 149, 150, 151, 152, 153, 154, 155, 156, 157, 158, 43, 159, 70, 72, 160, 161, 162, 163, 164, 165, 166, 167, 44, 168, 169, 170, 52, 171, 65, 55, 56, 172, 173, 174, 175, 176, 177, 178, 179, 180, 181, 38, 182, 183, 184, 185, 84, 89, 186, 187, 188, 189, 42, 46, 190, 191, 192, 193, 194, 195, 196, 197, 39, 198, 199, 200, 201, 87, 88, 202, 203, 204, 205, 206, 207, 208, 209, 210, 211, 212, 213, 19, 20, 22, 214, 215, 216, 217, 218, 219, 220, 221, 222, 223, 37, 224, 225, 226, 94, 227, 98, 228, 96, 97, 229, 230, 231, 232, 233, 234, 235, 236, 237, 238, 239, 240, 241, 242, 243, 244, 245, 246, 247, 248, 249, 250, 251, 252, 253, 263, 264, 265, 266, 267, 268, 269, 270, 271, 272, 273, 274, 275, 276, 290, 291, 292, 293, 294, 295, 296, 297, 298, 277, 278, 279, 280, 281, 282, 283, 284, 285, 286, 287, 288, 289, 299, 300, 301] (by decide +kernel) (by decide +kernel)) (goodIn_sub (fun _ h => List.mem_cons_of_mem _ (List.mem_append_right _ h)) (by decide +kernel))
set_option maxRecDepth 20000 in
theorem gX9_spillTimeAfter_X8_passMinutes : GoodIn wsX9_spillTimeAfter (wsV RX9 245 RX8 yX8_passMinutes wsX8_passMinutes) := goodIn_app (goodIn_of _ (by decide +kernel)) ggX9_spillTimeAfter_X8_passMinutes
set_option maxRecDepth 20000 in
theorem ggX9_spillTimeAfter_X9_at : GoodIn wsX9_spillTimeAfter wsX9_at := goodIn_ca (goodIn_r _ [116] (by decide +kernel) (by decide +kernel)) (goodIn_sub (fun _ h => List.mem_cons_of_mem _ (List.mem_append_right _ h)) (by decide +kernel))
set_option maxRecDepth 20000 in
theorem gX9_spillTimeAfter_X9_at : GoodIn wsX9_spillTimeAfter (va_wsS RX9 141 yX9_at wsX9_at) := goodIn_app (goodIn_of _ (by decide +kernel)) ggX9_spillTimeAfter_X9_at
theorem dX9_spillTimeAfter_0 : decode cX9_spillTimeAfter 0 = .ok (.aload_n 0, 1) := by decide +kernel
theorem dX9_spillTimeAfter_1 : decode cX9_spillTimeAfter 1 = .ok (.invokevirtual 94, 3) := by decide +kernel
theorem dX9_spillTimeAfter_4 : decode cX9_spillTimeAfter 4 = .ok (.aload_n 0, 1) := by decide +kernel
theorem dX9_spillTimeAfter_5 : decode cX9_spillTimeAfter 5 = .ok (.iload_n 1, 1) := by decide +kernel
theorem dX9_spillTimeAfter_6 : decode cX9_spillTimeAfter 6 = .ok (.invokevirtual 128, 3) := by decide +kernel
theorem dX9_spillTimeAfter_9 : decode cX9_spillTimeAfter 9 = .ok (.aload_n 0, 1) := by decide +kernel
theorem dX9_spillTimeAfter_10 : decode cX9_spillTimeAfter 10 = .ok (.iload_n 2, 1) := by decide +kernel
theorem dX9_spillTimeAfter_11 : decode cX9_spillTimeAfter 11 = .ok (.invokevirtual 238, 3) := by decide +kernel
theorem dX9_spillTimeAfter_14 : decode cX9_spillTimeAfter 14 = .ok (.aload_n 0, 1) := by decide +kernel
theorem dX9_spillTimeAfter_15 : decode cX9_spillTimeAfter 15 = .ok (.getfield 27, 3) := by decide +kernel
theorem dX9_spillTimeAfter_18 : decode cX9_spillTimeAfter 18 = .ok (.aload_n 0, 1) := by decide +kernel
theorem dX9_spillTimeAfter_19 : decode cX9_spillTimeAfter 19 = .ok (.getfield 23, 3) := by decide +kernel
theorem dX9_spillTimeAfter_22 : decode cX9_spillTimeAfter 22 = .ok (.invokevirtual 78, 3) := by decide +kernel
theorem dX9_spillTimeAfter_25 : decode cX9_spillTimeAfter 25 = .ok (.aload_n 0, 1) := by decide +kernel
theorem dX9_spillTimeAfter_26 : decode cX9_spillTimeAfter 26 = .ok (.getfield 27, 3) := by decide +kernel
theorem dX9_spillTimeAfter_29 : decode cX9_spillTimeAfter 29 = .ok (.iload_n 2, 1) := by decide +kernel
theorem dX9_spillTimeAfter_30 : decode cX9_spillTimeAfter 30 = .ok (.invokevirtual 245, 3) := by decide +kernel
theorem dX9_spillTimeAfter_33 : decode cX9_spillTimeAfter 33 = .ok (.aload_n 0, 1) := by decide +kernel
theorem dX9_spillTimeAfter_34 : decode cX9_spillTimeAfter 34 = .ok (.getfield 27, 3) := by decide +kernel
theorem dX9_spillTimeAfter_37 : decode cX9_spillTimeAfter 37 = .ok (.getfield 205, 3) := by decide +kernel
theorem dX9_spillTimeAfter_40 : decode cX9_spillTimeAfter 40 = .ok (.iload_n 1, 1) := by decide +kernel
theorem dX9_spillTimeAfter_41 : decode cX9_spillTimeAfter 41 = .ok (.invokestatic 141, 3) := by decide +kernel
theorem dX9_spillTimeAfter_44 : decode cX9_spillTimeAfter 44 = .ok (.ireturn, 1) := by decide +kernel
set_option maxRecDepth 20000 in
theorem ggX9_minutesUntilStep_X9_requireSetup : GoodIn wsX9_minutesUntilStep wsX9_requireSetup := goodIn_ca (goodIn_r _ [8, 9, 10, 11, 245, 246, 247, 248, 249, 250, 251, 252] (by decide +kernel) (by decide +kernel)) (goodIn_sub (fun _ h => List.mem_cons_of_mem _ (List.mem_append_left _ (List.mem_append_left _ (List.mem_append_right _ h)))) (by decide +kernel))
set_option maxRecDepth 20000 in
theorem gX9_minutesUntilStep_X9_requireSetup : GoodIn wsX9_minutesUntilStep (wsV RX9 94 RX9 yX9_requireSetup wsX9_requireSetup) := goodIn_app (goodIn_of _ (by decide +kernel)) ggX9_minutesUntilStep_X9_requireSetup
set_option maxRecDepth 20000 in
theorem ggX9_minutesUntilStep_X9_requireTile : GoodIn wsX9_minutesUntilStep wsX9_requireTile := goodIn_ca (goodIn_r _ [15, 16, 17, 2, 18, 19, 20, 21, 22, 23, 24, 25, 245, 246, 247, 248, 249, 250, 251, 252, 253, 254, 255, 256, 257, 258, 259, 260, 261, 262, 263, 264, 265, 266, 267, 268, 269, 270, 271, 272, 273, 274, 275, 276, 277, 278, 279] (by decide +kernel) (by decide +kernel)) (goodIn_sub (fun _ h => List.mem_cons_of_mem _ (List.mem_append_left _ (List.mem_append_right _ h))) (by decide +kernel))
set_option maxRecDepth 20000 in
theorem gX9_minutesUntilStep_X9_requireTile : GoodIn wsX9_minutesUntilStep (wsV RX9 128 RX9 yX9_requireTile wsX9_requireTile) := goodIn_app (goodIn_of _ (by decide +kernel)) ggX9_minutesUntilStep_X9_requireTile
set_option maxRecDepth 20000 in
theorem ggX9_minutesUntilStep_X8_copyFrom : GoodIn wsX9_minutesUntilStep wsX8_copyFrom := goodIn_r _ [29, 23, 30, 31, 32, 33, 34, 35, 36, 37, 38, 39, 40, 41, 42, 43, 44, 45, 46, 47, 48, 49, 50, 51, 52, 53, 54, 55, 56, 57, 58, 59, 60, 61, 7, 62, 63, 64, 65, 66, 67, 68, 69, 70, 71, 72, 73, 74, 75, 76, 77, 78, 79, 80, 81, 82, 83, 84, 85, 86, 87, 88, 89, 90, 91, 92, 253, 254, 255, 256, 257, 258, 259, 260, 261, 262, 263, 264, 265, 266, 267, 268, 269, 270, 271, 272, 273, 274, 275, 276, 277, 278, 279, 280, 281, 282, 283, 284, 285, 286, 287, 288, 289, 290, 291] (by decide +kernel) (by decide +kernel)
set_option maxRecDepth 20000 in
theorem gX9_minutesUntilStep_X8_copyFrom : GoodIn wsX9_minutesUntilStep (wsV RX9 78 RX8 yX8_copyFrom wsX8_copyFrom) := goodIn_app (goodIn_of _ (by decide +kernel)) ggX9_minutesUntilStep_X8_copyFrom
set_option maxRecDepth 20000 in
theorem ggX9_minutesUntilStep_X8_passMinute : GoodIn wsX9_minutesUntilStep wsX8_passMinute := goodIn_ca (goodIn_r _ [96, 35, 41, 30, 97, 98, 39, 99, 100, 101, 21, 102, 23, 103, 104, 42, 34, 105, 7, 106, 107, 108, 109, 110, 25, 24, 111, 112, 113, 114, 115, 116, 117, 118, 119, 120, 121, 122, 74, 123, 84, 79, 80, 124, 125, 126, 127, 128, 129, 65, 130, 131, 132, 133, 134, 135, 136, 137, 138, 139, 140, 141, 142, 143, 144, 145, 146, 147, 148, 37, 149, 64, 66, 150, 151, 152, 153, 154, 155, 156, 157, 38, 158, 159, 160, 46, 161, 59, 49, 50, 162, 163, 164, 165, 166, 167, 168, 169, 170, 171, 32, 172, 173, 174, 175, 78, 83, 176, 177, 178, 179, 36, 40, 180, 181, 182, 183, 184, 185, 186, 187, 33, 188, 189, 190, 191, 81, 82, 192, 193, 194, 195, 196, 197, 198, 199, 200, 201, 202, 203, 19, 20, 22, 204, 205, 206, 207, 208, 209, 210, 211, 212, 213, 31, 214, 215, 216, 88, 217, 92, 218, 90, 91, 219, 220, 221, 222, 223, 224, 225, 226, 227, 228, 229, 230, 231, 232, 233, 234, 235, 236, 237, 238, 239, 240, 241, 242, 243, 253, 254, 255, 256, 257, 258, 259, 260, 261, 262, 263, 264, 265, 266, 280, 281, 282, 283, 284, 285, 286, 287, 288, 267, 268, 269, 270, 271, 272, 273, 274, 275, 276, 277, 278, 279, 289, 290, 291] (by decide +kernel) (by decide +kernel)) (goodIn_sub (fun _ h => List.mem_cons_of_mem _ (List.mem_append_right _ h)) (by decide +kernel))
set_option maxRecDepth 20000 in
theorem gX9_minutesUntilStep_X8_passMinute : GoodIn wsX9_minutesUntilStep (wsV RX9 148 RX8 yX8_passMinute wsX8_passMinute) := goodIn_app (goodIn_of _ (by decide +kernel)) ggX9_minutesUntilStep_X8_passMinute
set_option maxRecDepth 20000 in
theorem ggX9_minutesUntilStep_X9_at : GoodIn wsX9_minutesUntilStep wsX9_at := goodIn_ca (goodIn_r _ [106] (by decide +kernel) (by decide +kernel)) (goodIn_sub (fun _ h => List.mem_cons_of_mem _ (List.mem_append_right _ h)) (by decide +kernel))
set_option maxRecDepth 20000 in
theorem gX9_minutesUntilStep_X9_at : GoodIn wsX9_minutesUntilStep (va_wsS RX9 141 yX9_at wsX9_at) := goodIn_app (goodIn_of _ (by decide +kernel)) ggX9_minutesUntilStep_X9_at
theorem dX9_minutesUntilStep_0 : decode cX9_minutesUntilStep 0 = .ok (.aload_n 0, 1) := by decide +kernel
theorem dX9_minutesUntilStep_1 : decode cX9_minutesUntilStep 1 = .ok (.invokevirtual 94, 3) := by decide +kernel
theorem dX9_minutesUntilStep_4 : decode cX9_minutesUntilStep 4 = .ok (.aload_n 0, 1) := by decide +kernel
theorem dX9_minutesUntilStep_5 : decode cX9_minutesUntilStep 5 = .ok (.iload_n 1, 1) := by decide +kernel
theorem dX9_minutesUntilStep_6 : decode cX9_minutesUntilStep 6 = .ok (.invokevirtual 128, 3) := by decide +kernel
theorem dX9_minutesUntilStep_9 : decode cX9_minutesUntilStep 9 = .ok (.aload_n 0, 1) := by decide +kernel
theorem dX9_minutesUntilStep_10 : decode cX9_minutesUntilStep 10 = .ok (.getfield 27, 3) := by decide +kernel
theorem dX9_minutesUntilStep_13 : decode cX9_minutesUntilStep 13 = .ok (.aload_n 0, 1) := by decide +kernel
theorem dX9_minutesUntilStep_14 : decode cX9_minutesUntilStep 14 = .ok (.getfield 23, 3) := by decide +kernel
theorem dX9_minutesUntilStep_17 : decode cX9_minutesUntilStep 17 = .ok (.invokevirtual 78, 3) := by decide +kernel
theorem dX9_minutesUntilStep_20 : decode cX9_minutesUntilStep 20 = .ok (.iconst 1, 1) := by decide +kernel
theorem dX9_minutesUntilStep_21 : decode cX9_minutesUntilStep 21 = .ok (.istore_n 2, 1) := by decide +kernel
theorem dX9_minutesUntilStep_22 : decode cX9_minutesUntilStep 22 = .ok (.iload_n 2, 1) := by decide +kernel
theorem dX9_minutesUntilStep_23 : decode cX9_minutesUntilStep 23 = .ok (.sipush 500, 3) := by decide +kernel
theorem dX9_minutesUntilStep_26 : decode cX9_minutesUntilStep 26 = .ok (.if_icmp .gt 43, 3) := by decide +kernel
theorem dX9_minutesUntilStep_29 : decode cX9_minutesUntilStep 29 = .ok (.aload_n 0, 1) := by decide +kernel
theorem dX9_minutesUntilStep_30 : decode cX9_minutesUntilStep 30 = .ok (.getfield 27, 3) := by decide +kernel
theorem dX9_minutesUntilStep_33 : decode cX9_minutesUntilStep 33 = .ok (.invokevirtual 148, 3) := by decide +kernel
theorem dX9_minutesUntilStep_36 : decode cX9_minutesUntilStep 36 = .ok (.aload_n 0, 1) := by decide +kernel
theorem dX9_minutesUntilStep_37 : decode cX9_minutesUntilStep 37 = .ok (.getfield 27, 3) := by decide +kernel
theorem dX9_minutesUntilStep_40 : decode cX9_minutesUntilStep 40 = .ok (.getfield 190, 3) := by decide +kernel
theorem dX9_minutesUntilStep_43 : decode cX9_minutesUntilStep 43 = .ok (.iload_n 1, 1) := by decide +kernel
theorem dX9_minutesUntilStep_44 : decode cX9_minutesUntilStep 44 = .ok (.invokestatic 141, 3) := by decide +kernel
theorem dX9_minutesUntilStep_47 : decode cX9_minutesUntilStep 47 = .ok (.aload_n 0, 1) := by decide +kernel
theorem dX9_minutesUntilStep_48 : decode cX9_minutesUntilStep 48 = .ok (.getfield 23, 3) := by decide +kernel
theorem dX9_minutesUntilStep_51 : decode cX9_minutesUntilStep 51 = .ok (.getfield 190, 3) := by decide +kernel
theorem dX9_minutesUntilStep_54 : decode cX9_minutesUntilStep 54 = .ok (.iload_n 1, 1) := by decide +kernel
theorem dX9_minutesUntilStep_55 : decode cX9_minutesUntilStep 55 = .ok (.invokestatic 141, 3) := by decide +kernel
theorem dX9_minutesUntilStep_58 : decode cX9_minutesUntilStep 58 = .ok (.if_icmp .le 5, 3) := by decide +kernel
theorem dX9_minutesUntilStep_61 : decode cX9_minutesUntilStep 61 = .ok (.iload_n 2, 1) := by decide +kernel
theorem dX9_minutesUntilStep_62 : decode cX9_minutesUntilStep 62 = .ok (.ireturn, 1) := by decide +kernel
theorem dX9_minutesUntilStep_63 : decode cX9_minutesUntilStep 63 = .ok (.iinc 2 1, 3) := by decide +kernel
theorem dX9_minutesUntilStep_66 : decode cX9_minutesUntilStep 66 = .ok (.goto (-44), 3) := by decide +kernel
theorem dX9_minutesUntilStep_69 : decode cX9_minutesUntilStep 69 = .ok (.iconst (-1), 1) := by decide +kernel
theorem dX9_minutesUntilStep_70 : decode cX9_minutesUntilStep 70 = .ok (.ireturn, 1) := by decide +kernel
set_option maxRecDepth 20000 in
theorem ggX9_minutesUntilFall_X9_requireSetup : GoodIn wsX9_minutesUntilFall wsX9_requireSetup := goodIn_ca (goodIn_r _ [9, 10, 11, 12, 238, 239, 240, 241, 242, 243, 244, 245] (by decide +kernel) (by decide +kernel)) (goodIn_sub (fun _ h => List.mem_cons_of_mem _ (List.mem_append_left _ (List.mem_append_right _ h))) (by decide +kernel))
set_option maxRecDepth 20000 in
theorem gX9_minutesUntilFall_X9_requireSetup : GoodIn wsX9_minutesUntilFall (wsV RX9 94 RX9 yX9_requireSetup wsX9_requireSetup) := goodIn_app (goodIn_of _ (by decide +kernel)) ggX9_minutesUntilFall_X9_requireSetup
set_option maxRecDepth 20000 in
theorem ggX9_minutesUntilFall_X8_copyFrom : GoodIn wsX9_minutesUntilFall wsX8_copyFrom := goodIn_r _ [17, 18, 19, 20, 21, 22, 23, 24, 25, 26, 27, 28, 29, 30, 31, 32, 33, 34, 35, 36, 37, 38, 39, 40, 41, 42, 43, 44, 45, 46, 47, 48, 49, 50, 8, 51, 52, 53, 54, 55, 56, 57, 58, 59, 60, 61, 62, 63, 64, 65, 66, 67, 68, 69, 70, 71, 72, 73, 74, 75, 76, 77, 78, 79, 80, 81, 246, 247, 248, 249, 250, 251, 252, 253, 254, 255, 256, 257, 258, 259, 269, 270, 271, 272, 273, 274, 275, 276, 277, 278, 279, 280, 281, 260, 261, 262, 263, 264, 265, 266, 267, 268, 282, 283, 284] (by decide +kernel) (by decide +kernel)
set_option maxRecDepth 20000 in
theorem gX9_minutesUntilFall_X8_copyFrom : GoodIn wsX9_minutesUntilFall (wsV RX9 78 RX8 yX8_copyFrom wsX8_copyFrom) := goodIn_app (goodIn_of _ (by decide +kernel)) ggX9_minutesUntilFall_X8_copyFrom
set_option maxRecDepth 20000 in
theorem ggX9_minutesUntilFall_X8_passMinute : GoodIn wsX9_minutesUntilFall wsX8_passMinute := goodIn_ca (goodIn_r _ [85, 24, 30, 19, 86, 87, 28, 88, 89, 90, 16, 91, 18, 92, 93, 31, 23, 94, 8, 95, 96, 97, 98, 99, 100, 101, 102, 103, 104, 105, 106, 107, 108, 109, 110, 111, 112, 113, 63, 114, 73, 68, 69, 115, 116, 117, 118, 119, 120, 54, 121, 122, 123, 124, 125, 126, 127, 128, 129, 130, 131, 132, 133, 134, 135, 136, 137, 138, 139, 26, 140, 53, 55, 141, 142, 143, 144, 145, 146, 147, 148, 27, 149, 150, 151, 35, 152, 48, 38, 39, 153, 154, 155, 156, 157, 158, 159, 160, 161, 162, 21, 163, 164, 165, 166, 67, 72, 167, 168, 169, 170, 25, 29, 171, 172, 173, 174, 175, 176, 177, 178, 22, 179, 180, 181, 182, 70, 71, 183, 184, 185, 186, 187, 188, 189, 190, 191, 192, 193, 194, 195, 196, 197, 198, 199, 200, 201, 202, 203, 204, 205, 206, 207, 20, 208, 209, 210, 77, 211, 81, 212, 79, 80, 213, 214, 215, 216, 217, 218, 219, 220, 221, 222, 223, 224, 225, 226, 227, 228, 229, 230, 231, 232, 233, 234, 235, 236, 237, 246, 247, 248, 249, 250, 251, 252, 253, 254, 255, 256, 257, 258, 259, 260, 261, 262, 263, 264, 265, 266, 267, 268, 269, 270, 271, 272, 273, 274, 275, 276, 277, 278, 279, 280, 281, 282, 283, 284] (by decide +kernel) (by decide +kernel)) (goodIn_sub (fun _ h => List.mem_cons_of_mem _ (List.mem_append_right _ h)) (by decide +kernel))
set_option maxRecDepth 20000 in
theorem gX9_minutesUntilFall_X8_passMinute : GoodIn wsX9_minutesUntilFall (wsV RX9 148 RX8 yX8_passMinute wsX8_passMinute) := goodIn_app (goodIn_of _ (by decide +kernel)) ggX9_minutesUntilFall_X8_passMinute
theorem dX9_minutesUntilFall_0 : decode cX9_minutesUntilFall 0 = .ok (.aload_n 0, 1) := by decide +kernel
theorem dX9_minutesUntilFall_1 : decode cX9_minutesUntilFall 1 = .ok (.invokevirtual 94, 3) := by decide +kernel
theorem dX9_minutesUntilFall_4 : decode cX9_minutesUntilFall 4 = .ok (.aload_n 0, 1) := by decide +kernel
theorem dX9_minutesUntilFall_5 : decode cX9_minutesUntilFall 5 = .ok (.getfield 27, 3) := by decide +kernel
theorem dX9_minutesUntilFall_8 : decode cX9_minutesUntilFall 8 = .ok (.aload_n 0, 1) := by decide +kernel
theorem dX9_minutesUntilFall_9 : decode cX9_minutesUntilFall 9 = .ok (.getfield 23, 3) := by decide +kernel
theorem dX9_minutesUntilFall_12 : decode cX9_minutesUntilFall 12 = .ok (.invokevirtual 78, 3) := by decide +kernel
theorem dX9_minutesUntilFall_15 : decode cX9_minutesUntilFall 15 = .ok (.iconst 1, 1) := by decide +kernel
theorem dX9_minutesUntilFall_16 : decode cX9_minutesUntilFall 16 = .ok (.istore_n 1, 1) := by decide +kernel
theorem dX9_minutesUntilFall_17 : decode cX9_minutesUntilFall 17 = .ok (.iload_n 1, 1) := by decide +kernel
theorem dX9_minutesUntilFall_18 : decode cX9_minutesUntilFall 18 = .ok (.sipush 500, 3) := by decide +kernel
theorem dX9_minutesUntilFall_21 : decode cX9_minutesUntilFall 21 = .ok (.if_icmp .gt 41, 3) := by decide +kernel
theorem dX9_minutesUntilFall_24 : decode cX9_minutesUntilFall 24 = .ok (.aload_n 0, 1) := by decide +kernel
theorem dX9_minutesUntilFall_25 : decode cX9_minutesUntilFall 25 = .ok (.getfield 27, 3) := by decide +kernel
theorem dX9_minutesUntilFall_28 : decode cX9_minutesUntilFall 28 = .ok (.invokevirtual 148, 3) := by decide +kernel
theorem dX9_minutesUntilFall_31 : decode cX9_minutesUntilFall 31 = .ok (.aload_n 0, 1) := by decide +kernel
theorem dX9_minutesUntilFall_32 : decode cX9_minutesUntilFall 32 = .ok (.getfield 27, 3) := by decide +kernel
theorem dX9_minutesUntilFall_35 : decode cX9_minutesUntilFall 35 = .ok (.getfield 157, 3) := by decide +kernel
theorem dX9_minutesUntilFall_38 : decode cX9_minutesUntilFall 38 = .ok (.getfield 184, 3) := by decide +kernel
theorem dX9_minutesUntilFall_41 : decode cX9_minutesUntilFall 41 = .ok (.aload_n 0, 1) := by decide +kernel
theorem dX9_minutesUntilFall_42 : decode cX9_minutesUntilFall 42 = .ok (.getfield 23, 3) := by decide +kernel
theorem dX9_minutesUntilFall_45 : decode cX9_minutesUntilFall 45 = .ok (.getfield 157, 3) := by decide +kernel
theorem dX9_minutesUntilFall_48 : decode cX9_minutesUntilFall 48 = .ok (.getfield 184, 3) := by decide +kernel
theorem dX9_minutesUntilFall_51 : decode cX9_minutesUntilFall 51 = .ok (.if_icmp .le 5, 3) := by decide +kernel
theorem dX9_minutesUntilFall_54 : decode cX9_minutesUntilFall 54 = .ok (.iload_n 1, 1) := by decide +kernel
theorem dX9_minutesUntilFall_55 : decode cX9_minutesUntilFall 55 = .ok (.ireturn, 1) := by decide +kernel
theorem dX9_minutesUntilFall_56 : decode cX9_minutesUntilFall 56 = .ok (.iinc 1 1, 3) := by decide +kernel
theorem dX9_minutesUntilFall_59 : decode cX9_minutesUntilFall 59 = .ok (.goto (-42), 3) := by decide +kernel
theorem dX9_minutesUntilFall_62 : decode cX9_minutesUntilFall 62 = .ok (.iconst (-1), 1) := by decide +kernel
theorem dX9_minutesUntilFall_63 : decode cX9_minutesUntilFall 63 = .ok (.ireturn, 1) := by decide +kernel
set_option maxRecDepth 20000 in
theorem ggX9_stepsAtPace_X9_requireSetup : GoodIn wsX9_stepsAtPace wsX9_requireSetup := goodIn_ca (goodIn_r _ [5, 6, 7, 8, 257, 258, 259, 260, 261, 262, 263, 264] (by decide +kernel) (by decide +kernel)) (goodIn_sub (fun _ h => List.mem_cons_of_mem _ (List.mem_append_left _ (List.mem_append_left _ (List.mem_append_right _ h)))) (by decide +kernel))
set_option maxRecDepth 20000 in
theorem gX9_stepsAtPace_X9_requireSetup : GoodIn wsX9_stepsAtPace (wsV RX9 94 RX9 yX9_requireSetup wsX9_requireSetup) := goodIn_app (goodIn_of _ (by decide +kernel)) ggX9_stepsAtPace_X9_requireSetup
set_option maxRecDepth 20000 in
theorem ggX9_stepsAtPace_X9_requirePace : GoodIn wsX9_stepsAtPace wsX9_requirePace := goodIn_ca (goodIn_r _ [12, 13, 14] (by decide +kernel) (by decide +kernel)) (goodIn_sub (fun _ h => List.mem_cons_of_mem _ (List.mem_append_left _ (List.mem_append_right _ h))) (by decide +kernel))
set_option maxRecDepth 20000 in
theorem gX9_stepsAtPace_X9_requirePace : GoodIn wsX9_stepsAtPace (wsV RX9 248 RX9 yX9_requirePace wsX9_requirePace) := goodIn_app (goodIn_of _ (by decide +kernel)) ggX9_stepsAtPace_X9_requirePace
set_option maxRecDepth 20000 in
theorem ggX9_stepsAtPace_X9_requireForetellable : GoodIn wsX9_stepsAtPace wsX9_requireForetellable := goodIn_ca (goodIn_r _ [18, 13, 14] (by decide +kernel) (by decide +kernel)) (goodIn_sub (fun _ h => List.mem_cons_of_mem _ (List.mem_append_left _ (List.mem_append_right _ h))) (by decide +kernel))
set_option maxRecDepth 20000 in
theorem gX9_stepsAtPace_X9_requireForetellable : GoodIn wsX9_stepsAtPace (wsV RX9 238 RX9 yX9_requireForetellable wsX9_requireForetellable) := goodIn_app (goodIn_of _ (by decide +kernel)) ggX9_stepsAtPace_X9_requireForetellable
set_option maxRecDepth 20000 in
theorem ggX9_stepsAtPace_X9_foretellSteps : GoodIn wsX9_stepsAtPace wsX9_foretellSteps := goodIn_ca (goodIn_r _ [22, 23, 24, 25, 26, 27, 28, 29, 30, 31, 32, 33, 34, 35, 36, 37, 38, 39, 40, 41, 42, 43, 44, 45, 46, 47, 48, 49, 50, 51, 52, 53, 54, 55, 56, 57, 58, 59, 60, 61, 62, 63, 64, 65, 4, 66, 67, 68, 69, 70, 71, 72, 73, 74, 75, 76, 77, 78, 79, 80, 81, 82, 83, 84, 85, 86, 87, 88, 89, 90, 91, 92, 93, 94, 95, 96, 97, 98, 99, 100, 101, 102, 103, 104, 105, 106, 107, 108, 109, 110, 111, 112, 113, 114, 115, 116, 117, 118, 119, 120, 121, 122, 123, 124, 125, 126, 127, 128, 129, 130, 131, 132, 133, 134, 135, 136, 137, 138, 139, 140, 141, 142, 143, 144, 145, 146, 147, 148, 149, 150, 151, 152, 153, 154, 155, 156, 157, 158, 159, 160, 161, 162, 163, 164, 165, 166, 167, 168, 169, 170, 171, 172, 173, 174, 175, 176, 177, 178, 179, 180, 181, 182, 183, 184, 185, 186, 187, 188, 189, 190, 191, 192, 193, 194, 195, 196, 197, 198, 199, 200, 201, 202, 203, 204, 205, 206, 207, 208, 209, 210, 211, 212, 213, 214, 215, 216, 217, 218, 219, 220, 221, 222, 223, 224, 225, 226, 227, 228, 229, 230, 231, 232, 233, 234, 235, 236, 237, 238, 239, 240, 241, 242, 243, 244, 245, 246, 247, 248, 249, 250, 251, 252, 253, 254, 255, 256, 257, 258, 259, 260, 261, 262, 263, 264, 265, 266, 267, 268, 269, 270, 271, 272, 273, 274, 275, 276, 277, 278, 279, 280, 281, 282, 283, 284, 285, 286, 287, 288, 289, 290, 291, 292, 293, 294, 295, 296, 297, 298, 299, 300, 301, 302, 303] (by decide +kernel) (by decide +kernel)) (goodIn_sub (fun _ h => List.mem_cons_of_mem _ (List.mem_append_right _ h)) (by decide +kernel))
set_option maxRecDepth 20000 in
theorem gX9_stepsAtPace_X9_foretellSteps : GoodIn wsX9_stepsAtPace (wsV RX9 241 RX9 yX9_foretellSteps wsX9_foretellSteps) := goodIn_app (goodIn_of _ (by decide +kernel)) ggX9_stepsAtPace_X9_foretellSteps
theorem dX9_stepsAtPace_0 : decode cX9_stepsAtPace 0 = .ok (.aload_n 0, 1) := by decide +kernel
theorem dX9_stepsAtPace_1 : decode cX9_stepsAtPace 1 = .ok (.invokevirtual 94, 3) := by decide +kernel
theorem dX9_stepsAtPace_4 : decode cX9_stepsAtPace 4 = .ok (.aload_n 0, 1) := by decide +kernel
theorem dX9_stepsAtPace_5 : decode cX9_stepsAtPace 5 = .ok (.iload_n 1, 1) := by decide +kernel
theorem dX9_stepsAtPace_6 : decode cX9_stepsAtPace 6 = .ok (.invokevirtual 248, 3) := by decide +kernel
theorem dX9_stepsAtPace_9 : decode cX9_stepsAtPace 9 = .ok (.aload_n 0, 1) := by decide +kernel
theorem dX9_stepsAtPace_10 : decode cX9_stepsAtPace 10 = .ok (.iload_n 2, 1) := by decide +kernel
theorem dX9_stepsAtPace_11 : decode cX9_stepsAtPace 11 = .ok (.invokevirtual 238, 3) := by decide +kernel
theorem dX9_stepsAtPace_14 : decode cX9_stepsAtPace 14 = .ok (.aload_n 0, 1) := by decide +kernel
theorem dX9_stepsAtPace_15 : decode cX9_stepsAtPace 15 = .ok (.iload_n 1, 1) := by decide +kernel
theorem dX9_stepsAtPace_16 : decode cX9_stepsAtPace 16 = .ok (.iload_n 2, 1) := by decide +kernel
theorem dX9_stepsAtPace_17 : decode cX9_stepsAtPace 17 = .ok (.invokevirtual 241, 3) := by decide +kernel
theorem dX9_stepsAtPace_20 : decode cX9_stepsAtPace 20 = .ok (.ireturn, 1) := by decide +kernel
set_option maxRecDepth 20000 in
theorem ggX9_bestPace_X9_requireSetup : GoodIn wsX9_bestPace wsX9_requireSetup := goodIn_ca (goodIn_r _ [5, 6, 7, 8, 253, 254, 255, 256, 257, 258, 259, 260] (by decide +kernel) (by decide +kernel)) (goodIn_sub (fun _ h => List.mem_cons_of_mem _ (List.mem_append_left _ (List.mem_append_left _ (List.mem_append_right _ h)))) (by decide +kernel))
set_option maxRecDepth 20000 in
theorem gX9_bestPace_X9_requireSetup : GoodIn wsX9_bestPace (wsV RX9 94 RX9 yX9_requireSetup wsX9_requireSetup) := goodIn_app (goodIn_of _ (by decide +kernel)) ggX9_bestPace_X9_requireSetup
set_option maxRecDepth 20000 in
theorem ggX9_bestPace_X9_requireForetellable : GoodIn wsX9_bestPace wsX9_requireForetellable := goodIn_ca (goodIn_r _ [12, 13, 14] (by decide +kernel) (by decide +kernel)) (goodIn_sub (fun _ h => List.mem_cons_of_mem _ (List.mem_append_left _ (List.mem_append_right _ h))) (by decide +kernel))
set_option maxRecDepth 20000 in
theorem gX9_bestPace_X9_requireForetellable : GoodIn wsX9_bestPace (wsV RX9 238 RX9 yX9_requireForetellable wsX9_requireForetellable) := goodIn_app (goodIn_of _ (by decide +kernel)) ggX9_bestPace_X9_requireForetellable
set_option maxRecDepth 20000 in
theorem ggX9_bestPace_X9_foretellSteps : GoodIn wsX9_bestPace wsX9_foretellSteps := goodIn_ca (goodIn_r _ [18, 19, 20, 21, 22, 23, 24, 25, 26, 27, 28, 29, 30, 31, 32, 33, 34, 35, 36, 37, 38, 39, 40, 41, 42, 43, 44, 45, 46, 47, 48, 49, 50, 51, 52, 53, 54, 55, 56, 57, 58, 59, 60, 61, 4, 62, 63, 64, 65, 66, 67, 68, 69, 70, 71, 72, 73, 74, 75, 76, 77, 78, 79, 80, 81, 82, 83, 84, 85, 86, 87, 88, 89, 90, 91, 92, 93, 94, 95, 96, 97, 98, 99, 100, 101, 102, 103, 104, 105, 106, 107, 108, 109, 110, 111, 112, 113, 114, 115, 116, 117, 118, 119, 120, 121, 122, 123, 124, 125, 126, 127, 128, 129, 130, 131, 132, 133, 134, 135, 136, 137, 138, 139, 140, 141, 142, 143, 144, 145, 146, 147, 148, 149, 150, 151, 152, 153, 154, 155, 156, 157, 158, 159, 160, 161, 162, 163, 164, 165, 166, 167, 168, 169, 170, 171, 172, 173, 174, 175, 176, 177, 178, 179, 180, 181, 182, 183, 184, 185, 186, 187, 188, 189, 190, 191, 192, 193, 194, 195, 196, 197, 198, 199, 200, 201, 202, 203, 204, 205, 206, 207, 208, 209, 210, 211, 212, 213, 214, 215, 216, 217, 218, 219, 220, 221, 222, 223, 224, 225, 226, 227, 228, 229, 230, 231, 232, 233, 234, 235, 236, 237, 238, 239, 240, 241, 242, 243, 244, 245, 246, 247, 248, 249, 250, 251, 252, 253, 254, 255, 256, 257, 258, 259, 260, 261, 262, 263, 264, 265, 266, 267, 268, 269, 270, 271, 272, 273, 274, 275, 276, 277, 278, 279, 280, 281, 282, 283, 284, 285, 286, 287, 288, 289, 290, 291, 292, 293, 294, 295, 296, 297, 298, 299] (by decide +kernel) (by decide +kernel)) (goodIn_sub (fun _ h => List.mem_cons_of_mem _ (List.mem_append_right _ h)) (by decide +kernel))
set_option maxRecDepth 20000 in
theorem gX9_bestPace_X9_foretellSteps : GoodIn wsX9_bestPace (wsV RX9 241 RX9 yX9_foretellSteps wsX9_foretellSteps) := goodIn_app (goodIn_of _ (by decide +kernel)) ggX9_bestPace_X9_foretellSteps
theorem dX9_bestPace_0 : decode cX9_bestPace 0 = .ok (.aload_n 0, 1) := by decide +kernel
theorem dX9_bestPace_1 : decode cX9_bestPace 1 = .ok (.invokevirtual 94, 3) := by decide +kernel
theorem dX9_bestPace_4 : decode cX9_bestPace 4 = .ok (.aload_n 0, 1) := by decide +kernel
theorem dX9_bestPace_5 : decode cX9_bestPace 5 = .ok (.iload_n 1, 1) := by decide +kernel
theorem dX9_bestPace_6 : decode cX9_bestPace 6 = .ok (.invokevirtual 238, 3) := by decide +kernel
theorem dX9_bestPace_9 : decode cX9_bestPace 9 = .ok (.iconst (-1), 1) := by decide +kernel
theorem dX9_bestPace_10 : decode cX9_bestPace 10 = .ok (.istore_n 2, 1) := by decide +kernel
theorem dX9_bestPace_11 : decode cX9_bestPace 11 = .ok (.iconst (-1), 1) := by decide +kernel
theorem dX9_bestPace_12 : decode cX9_bestPace 12 = .ok (.istore_n 3, 1) := by decide +kernel
theorem dX9_bestPace_13 : decode cX9_bestPace 13 = .ok (.iconst 1, 1) := by decide +kernel
theorem dX9_bestPace_14 : decode cX9_bestPace 14 = .ok (.istore 4, 2) := by decide +kernel
theorem dX9_bestPace_16 : decode cX9_bestPace 16 = .ok (.iload 4, 2) := by decide +kernel
theorem dX9_bestPace_18 : decode cX9_bestPace 18 = .ok (.iconst 5, 1) := by decide +kernel
theorem dX9_bestPace_19 : decode cX9_bestPace 19 = .ok (.if_icmp .gt 30, 3) := by decide +kernel
theorem dX9_bestPace_22 : decode cX9_bestPace 22 = .ok (.aload_n 0, 1) := by decide +kernel
theorem dX9_bestPace_23 : decode cX9_bestPace 23 = .ok (.iload 4, 2) := by decide +kernel
theorem dX9_bestPace_25 : decode cX9_bestPace 25 = .ok (.iload_n 1, 1) := by decide +kernel
theorem dX9_bestPace_26 : decode cX9_bestPace 26 = .ok (.invokevirtual 241, 3) := by decide +kernel
theorem dX9_bestPace_29 : decode cX9_bestPace 29 = .ok (.istore 5, 2) := by decide +kernel
theorem dX9_bestPace_31 : decode cX9_bestPace 31 = .ok (.iload 5, 2) := by decide +kernel
theorem dX9_bestPace_33 : decode cX9_bestPace 33 = .ok (.iload_n 3, 1) := by decide +kernel
theorem dX9_bestPace_34 : decode cX9_bestPace 34 = .ok (.if_icmp .le 9, 3) := by decide +kernel
theorem dX9_bestPace_37 : decode cX9_bestPace 37 = .ok (.iload 5, 2) := by decide +kernel
theorem dX9_bestPace_39 : decode cX9_bestPace 39 = .ok (.istore_n 3, 1) := by decide +kernel
theorem dX9_bestPace_40 : decode cX9_bestPace 40 = .ok (.iload 4, 2) := by decide +kernel
theorem dX9_bestPace_42 : decode cX9_bestPace 42 = .ok (.istore_n 2, 1) := by decide +kernel
theorem dX9_bestPace_43 : decode cX9_bestPace 43 = .ok (.iinc 4 1, 3) := by decide +kernel
theorem dX9_bestPace_46 : decode cX9_bestPace 46 = .ok (.goto (-30), 3) := by decide +kernel
theorem dX9_bestPace_49 : decode cX9_bestPace 49 = .ok (.iload_n 2, 1) := by decide +kernel
theorem dX9_bestPace_50 : decode cX9_bestPace 50 = .ok (.ireturn, 1) := by decide +kernel
set_option maxRecDepth 20000 in
theorem ggX9_bestCurtain_X9_requireSetup : GoodIn wsX9_bestCurtain wsX9_requireSetup := goodIn_ca (goodIn_r _ [12, 13, 14, 15, 253, 254, 255, 256, 257, 258, 259, 260] (by decide +kernel) (by decide +kernel)) (goodIn_sub (fun _ h => List.mem_cons_of_mem _ (List.mem_append_left _ (List.mem_append_left _ (List.mem_append_right _ h)))) (by decide +kernel))
set_option maxRecDepth 20000 in
theorem gX9_bestCurtain_X9_requireSetup : GoodIn wsX9_bestCurtain (wsV RX9 94 RX9 yX9_requireSetup wsX9_requireSetup) := goodIn_app (goodIn_of _ (by decide +kernel)) ggX9_bestCurtain_X9_requireSetup
set_option maxRecDepth 20000 in
theorem ggX9_bestCurtain_X9_requireForetellable : GoodIn wsX9_bestCurtain wsX9_requireForetellable := goodIn_ca (goodIn_r _ [19, 20, 21] (by decide +kernel) (by decide +kernel)) (goodIn_sub (fun _ h => List.mem_cons_of_mem _ (List.mem_append_left _ (List.mem_append_right _ h))) (by decide +kernel))
set_option maxRecDepth 20000 in
theorem gX9_bestCurtain_X9_requireForetellable : GoodIn wsX9_bestCurtain (wsV RX9 238 RX9 yX9_requireForetellable wsX9_requireForetellable) := goodIn_app (goodIn_of _ (by decide +kernel)) ggX9_bestCurtain_X9_requireForetellable
set_option maxRecDepth 20000 in
theorem ggX9_bestCurtain_X9_at : GoodIn wsX9_bestCurtain wsX9_at := goodIn_ca (goodIn_r _ [24] (by decide +kernel) (by decide +kernel)) (goodIn_sub (fun _ h => List.mem_cons_of_mem _ (List.mem_append_right _ h)) (by decide +kernel))
set_option maxRecDepth 20000 in
theorem gX9_bestCurtain_X9_at : GoodIn wsX9_bestCurtain (va_wsS RX9 141 yX9_at wsX9_at) := goodIn_app (goodIn_of _ (by decide +kernel)) ggX9_bestCurtain_X9_at
set_option maxRecDepth 20000 in
theorem ggX9_bestCurtain_X8_copyFrom : GoodIn wsX9_bestCurtain wsX8_copyFrom := goodIn_r _ [29, 30, 31, 32, 33, 34, 35, 36, 37, 38, 39, 40, 41, 42, 43, 44, 45, 46, 47, 48, 49, 50, 51, 52, 53, 54, 55, 56, 57, 58, 59, 60, 61, 62, 11, 63, 64, 65, 66, 67, 68, 69, 70, 71, 72, 73, 74, 75, 76, 77, 78, 79, 80, 81, 82, 83, 84, 85, 86, 87, 88, 89, 90, 91, 92, 93, 261, 262, 263, 264, 265, 266, 267, 268, 269, 270, 271, 272, 273, 274, 275, 276, 277, 278, 279, 280, 281, 282, 283, 284, 285, 286, 287, 288, 289, 290, 291, 292, 293, 294, 295, 296, 297, 298, 299] (by decide +kernel) (by decide +kernel)
set_option maxRecDepth 20000 in
theorem gX9_bestCurtain_X8_copyFrom : GoodIn wsX9_bestCurtain (wsV RX9 78 RX8 yX8_copyFrom wsX8_copyFrom) := goodIn_app (goodIn_of _ (by decide +kernel)) ggX9_bestCurtain_X8_copyFrom
set_option maxRecDepth 20000 in
theorem ggX9_bestCurtain_X9_put : GoodIn wsX9_bestCurtain wsX9_put := goodIn_ca (goodIn_r _ [96] (by decide +kernel) (by decide +kernel)) (goodIn_sub (fun _ h => List.mem_cons_of_mem _ (List.mem_append_right _ h)) (by decide +kernel))
set_option maxRecDepth 20000 in
theorem gX9_bestCurtain_X9_put : GoodIn wsX9_bestCurtain (va_wsS RX9 58 yX9_put wsX9_put) := goodIn_app (goodIn_of _ (by decide +kernel)) ggX9_bestCurtain_X9_put
set_option maxRecDepth 20000 in
theorem ggX9_bestCurtain_X8_passMinutes : GoodIn wsX9_bestCurtain wsX8_passMinutes := goodIn_ca (goodIn_r _ [100, 101, 102, 103, 28, 104, 36, 42, 31, 105, 106, 40, 107, 108, 109, 110, 30, 111, 112, 43, 35, 23, 11, 24, 113, 114, 115, 116, 117, 118, 119, 120, 121, 122, 123, 124, 125, 95, 96, 126, 127, 128, 75, 129, 85, 80, 81, 130, 131, 132, 133, 134, 135, 66, 136, 137, 138, 139, 140, 141, 142, 143, 144, 145, 146, 147, 148, 149, 150, 151, 152, 153, 154, 38, 155, 65, 67, 156, 157, 158, 159, 160, 161, 162, 163, 39, 164, 165, 166, 47, 167, 60, 50, 51, 168, 169, 170, 171, 172, 173, 174, 175, 176, 177, 33, 178, 179, 180, 181, 79, 84, 182, 183, 184, 185, 37, 41, 186, 187, 188, 189, 190, 191, 192, 193, 34, 194, 195, 196, 197, 82, 83, 198, 199, 200, 201, 202, 203, 204, 205, 206, 207, 208, 209, 210, 211, 212, 213, 214, 215, 216, 217, 218, 219, 220, 221, 222, 32, 223, 224, 225, 89, 226, 93, 227, 91, 92, 228, 229, 230, 231, 232, 233, 234, 235, 236, 237, 238, 239, 240, 241, 242, 243, 244, 245, 246, 247, 248, 249, 250, 251, 252, 261, 262, 263, 264, 265, 266, 267, 268, 269, 270, 271, 272, 273, 274, 288, 289, 290, 291, 292, 293, 294, 295, 296, 275, 276, 277, 278, 279, 280, 281, 282, 283, 284, 285, 286, 287, 297, 298, 299] (by decide +kernel) (by decide +kernel)) (goodIn_sub (fun _ h => List.mem_cons_of_mem _ (List.mem_append_right _ h)) (by decide +kernel))
set_option maxRecDepth 20000 in
theorem gX9_bestCurtain_X8_passMinutes : GoodIn wsX9_bestCurtain (wsV RX9 245 RX8 yX8_passMinutes wsX8_passMinutes) := goodIn_app (goodIn_of _ (by decide +kernel)) ggX9_bestCurtain_X8_passMinutes
theorem dX9_bestCurtain_0 : decode cX9_bestCurtain 0 = .ok (.aload_n 0, 1) := by decide +kernel
theorem dX9_bestCurtain_1 : decode cX9_bestCurtain 1 = .ok (.invokevirtual 94, 3) := by decide +kernel
theorem dX9_bestCurtain_4 : decode cX9_bestCurtain 4 = .ok (.aload_n 0, 1) := by decide +kernel
theorem dX9_bestCurtain_5 : decode cX9_bestCurtain 5 = .ok (.iload_n 1, 1) := by decide +kernel
theorem dX9_bestCurtain_6 : decode cX9_bestCurtain 6 = .ok (.invokevirtual 238, 3) := by decide +kernel
theorem dX9_bestCurtain_9 : decode cX9_bestCurtain 9 = .ok (.iconst (-1), 1) := by decide +kernel
theorem dX9_bestCurtain_10 : decode cX9_bestCurtain 10 = .ok (.istore_n 2, 1) := by decide +kernel
theorem dX9_bestCurtain_11 : decode cX9_bestCurtain 11 = .ok (.iconst (-1), 1) := by decide +kernel
theorem dX9_bestCurtain_12 : decode cX9_bestCurtain 12 = .ok (.istore_n 3, 1) := by decide +kernel
theorem dX9_bestCurtain_13 : decode cX9_bestCurtain 13 = .ok (.iconst 0, 1) := by decide +kernel
theorem dX9_bestCurtain_14 : decode cX9_bestCurtain 14 = .ok (.istore 4, 2) := by decide +kernel
theorem dX9_bestCurtain_16 : decode cX9_bestCurtain 16 = .ok (.iload 4, 2) := by decide +kernel
theorem dX9_bestCurtain_18 : decode cX9_bestCurtain 18 = .ok (.aload_n 0, 1) := by decide +kernel
theorem dX9_bestCurtain_19 : decode cX9_bestCurtain 19 = .ok (.getfield 23, 3) := by decide +kernel
theorem dX9_bestCurtain_22 : decode cX9_bestCurtain 22 = .ok (.getfield 97, 3) := by decide +kernel
theorem dX9_bestCurtain_25 : decode cX9_bestCurtain 25 = .ok (.getfield 106, 3) := by decide +kernel
theorem dX9_bestCurtain_28 : decode cX9_bestCurtain 28 = .ok (.if_icmp .ge 87, 3) := by decide +kernel
theorem dX9_bestCurtain_31 : decode cX9_bestCurtain 31 = .ok (.aload_n 0, 1) := by decide +kernel
theorem dX9_bestCurtain_32 : decode cX9_bestCurtain 32 = .ok (.getfield 23, 3) := by decide +kernel
theorem dX9_bestCurtain_35 : decode cX9_bestCurtain 35 = .ok (.getfield 138, 3) := by decide +kernel
theorem dX9_bestCurtain_38 : decode cX9_bestCurtain 38 = .ok (.iload 4, 2) := by decide +kernel
theorem dX9_bestCurtain_40 : decode cX9_bestCurtain 40 = .ok (.invokestatic 141, 3) := by decide +kernel
theorem dX9_bestCurtain_43 : decode cX9_bestCurtain 43 = .ok (.ifCond .ne 6, 3) := by decide +kernel
theorem dX9_bestCurtain_46 : decode cX9_bestCurtain 46 = .ok (.goto 63, 3) := by decide +kernel
theorem dX9_bestCurtain_49 : decode cX9_bestCurtain 49 = .ok (.aload_n 0, 1) := by decide +kernel
theorem dX9_bestCurtain_50 : decode cX9_bestCurtain 50 = .ok (.getfield 27, 3) := by decide +kernel
theorem dX9_bestCurtain_53 : decode cX9_bestCurtain 53 = .ok (.aload_n 0, 1) := by decide +kernel
theorem dX9_bestCurtain_54 : decode cX9_bestCurtain 54 = .ok (.getfield 23, 3) := by decide +kernel
theorem dX9_bestCurtain_57 : decode cX9_bestCurtain 57 = .ok (.invokevirtual 78, 3) := by decide +kernel
theorem dX9_bestCurtain_60 : decode cX9_bestCurtain 60 = .ok (.aload_n 0, 1) := by decide +kernel
theorem dX9_bestCurtain_61 : decode cX9_bestCurtain 61 = .ok (.getfield 27, 3) := by decide +kernel
theorem dX9_bestCurtain_64 : decode cX9_bestCurtain 64 = .ok (.getfield 138, 3) := by decide +kernel
theorem dX9_bestCurtain_67 : decode cX9_bestCurtain 67 = .ok (.iload 4, 2) := by decide +kernel
theorem dX9_bestCurtain_69 : decode cX9_bestCurtain 69 = .ok (.iconst 0, 1) := by decide +kernel
theorem dX9_bestCurtain_70 : decode cX9_bestCurtain 70 = .ok (.invokestatic 58, 3) := by decide +kernel
theorem dX9_bestCurtain_73 : decode cX9_bestCurtain 73 = .ok (.aload_n 0, 1) := by decide +kernel
theorem dX9_bestCurtain_74 : decode cX9_bestCurtain 74 = .ok (.getfield 27, 3) := by decide +kernel
theorem dX9_bestCurtain_77 : decode cX9_bestCurtain 77 = .ok (.iload_n 1, 1) := by decide +kernel
theorem dX9_bestCurtain_78 : decode cX9_bestCurtain 78 = .ok (.invokevirtual 245, 3) := by decide +kernel
theorem dX9_bestCurtain_81 : decode cX9_bestCurtain 81 = .ok (.aload_n 0, 1) := by decide +kernel
theorem dX9_bestCurtain_82 : decode cX9_bestCurtain 82 = .ok (.getfield 27, 3) := by decide +kernel
theorem dX9_bestCurtain_85 : decode cX9_bestCurtain 85 = .ok (.getfield 157, 3) := by decide +kernel
theorem dX9_bestCurtain_88 : decode cX9_bestCurtain 88 = .ok (.getfield 175, 3) := by decide +kernel
theorem dX9_bestCurtain_91 : decode cX9_bestCurtain 91 = .ok (.iload_n 3, 1) := by decide +kernel
theorem dX9_bestCurtain_92 : decode cX9_bestCurtain 92 = .ok (.if_icmp .le 17, 3) := by decide +kernel
theorem dX9_bestCurtain_95 : decode cX9_bestCurtain 95 = .ok (.aload_n 0, 1) := by decide +kernel
theorem dX9_bestCurtain_96 : decode cX9_bestCurtain 96 = .ok (.getfield 27, 3) := by decide +kernel
theorem dX9_bestCurtain_99 : decode cX9_bestCurtain 99 = .ok (.getfield 157, 3) := by decide +kernel
theorem dX9_bestCurtain_102 : decode cX9_bestCurtain 102 = .ok (.getfield 175, 3) := by decide +kernel
theorem dX9_bestCurtain_105 : decode cX9_bestCurtain 105 = .ok (.istore_n 3, 1) := by decide +kernel
theorem dX9_bestCurtain_106 : decode cX9_bestCurtain 106 = .ok (.iload 4, 2) := by decide +kernel
theorem dX9_bestCurtain_108 : decode cX9_bestCurtain 108 = .ok (.istore_n 2, 1) := by decide +kernel
theorem dX9_bestCurtain_109 : decode cX9_bestCurtain 109 = .ok (.iinc 4 1, 3) := by decide +kernel
theorem dX9_bestCurtain_112 : decode cX9_bestCurtain 112 = .ok (.goto (-96), 3) := by decide +kernel
theorem dX9_bestCurtain_115 : decode cX9_bestCurtain 115 = .ok (.iload_n 2, 1) := by decide +kernel
theorem dX9_bestCurtain_116 : decode cX9_bestCurtain 116 = .ok (.ireturn, 1) := by decide +kernel
set_option maxRecDepth 20000 in
theorem ggX9_foretellSteps_X8_copyFrom : GoodIn wsX9_foretellSteps wsX8_copyFrom := goodIn_r _ [10, 11, 12, 13, 14, 15, 16, 17, 18, 19, 20, 21, 22, 23, 24, 25, 26, 27, 28, 29, 30, 31, 32, 33, 34, 35, 36, 37, 38, 39, 40, 41, 42, 43, 44, 45, 46, 47, 48, 49, 50, 51, 52, 53, 54, 55, 56, 57, 58, 59, 60, 61, 62, 63, 64, 65, 66, 67, 68, 69, 70, 71, 72, 73, 74, 75, 244, 245, 246, 247, 248, 249, 250, 251, 252, 253, 254, 255, 256, 257, 267, 268, 269, 270, 271, 272, 273, 274, 275, 276, 277, 278, 279, 258, 259, 260, 261, 262, 263, 264, 265, 266, 280, 281, 282] (by decide +kernel) (by decide +kernel)
set_option maxRecDepth 20000 in
theorem gX9_foretellSteps_X8_copyFrom : GoodIn wsX9_foretellSteps (wsV RX9 78 RX8 yX8_copyFrom wsX8_copyFrom) := goodIn_app (goodIn_of _ (by decide +kernel)) ggX9_foretellSteps_X8_copyFrom
set_option maxRecDepth 20000 in
theorem ggX9_foretellSteps_X8_passMinutes : GoodIn wsX9_foretellSteps wsX8_passMinutes := goodIn_ca (goodIn_r _ [79, 80, 81, 82, 9, 83, 17, 23, 12, 84, 85, 21, 86, 87, 88, 89, 11, 90, 91, 24, 16, 92, 44, 93, 94, 95, 96, 97, 98, 99, 100, 101, 102, 103, 104, 105, 106, 107, 108, 109, 110, 111, 57, 112, 67, 62, 63, 113, 114, 115, 116, 117, 118, 48, 119, 120, 121, 122, 123, 124, 125, 126, 127, 128, 129, 130, 131, 132, 133, 134, 135, 136, 137, 19, 138, 47, 49, 139, 140, 141, 142, 143, 144, 145, 146, 20, 147, 148, 149, 28, 150, 41, 31, 32, 151, 152, 153, 154, 155, 156, 157, 158, 159, 160, 14, 161, 162, 163, 164, 61, 66, 165, 166, 167, 168, 18, 22, 169, 170, 171, 172, 173, 174, 175, 176, 15, 177, 178, 179, 180, 64, 65, 181, 182, 183, 184, 185, 186, 187, 188, 189, 190, 191, 192, 193, 194, 195, 196, 197, 198, 199, 200, 201, 202, 203, 204, 205, 13, 206, 207, 208, 71, 209, 75, 210, 73, 74, 211, 212, 213, 214, 215, 216, 217, 218, 219, 220, 221, 222, 223, 224, 225, 226, 227, 228, 229, 230, 231, 232, 233, 234, 235, 244, 245, 246, 247, 248, 249, 250, 251, 252, 253, 254, 255, 256, 257, 258, 259, 260, 261, 262, 263, 264, 265, 266, 267, 268, 269, 270, 271, 272, 273, 274, 275, 276, 277, 278, 279, 280, 281, 282] (by decide +kernel) (by decide +kernel)) (goodIn_sub (fun _ h => List.mem_cons_of_mem _ (List.mem_append_right _ h)) (by decide +kernel))
set_option maxRecDepth 20000 in
theorem gX9_foretellSteps_X8_passMinutes : GoodIn wsX9_foretellSteps (wsV RX9 245 RX8 yX8_passMinutes wsX8_passMinutes) := goodIn_app (goodIn_of _ (by decide +kernel)) ggX9_foretellSteps_X8_passMinutes
theorem dX9_foretellSteps_0 : decode cX9_foretellSteps 0 = .ok (.aload_n 0, 1) := by decide +kernel
theorem dX9_foretellSteps_1 : decode cX9_foretellSteps 1 = .ok (.getfield 27, 3) := by decide +kernel
theorem dX9_foretellSteps_4 : decode cX9_foretellSteps 4 = .ok (.aload_n 0, 1) := by decide +kernel
theorem dX9_foretellSteps_5 : decode cX9_foretellSteps 5 = .ok (.getfield 23, 3) := by decide +kernel
theorem dX9_foretellSteps_8 : decode cX9_foretellSteps 8 = .ok (.invokevirtual 78, 3) := by decide +kernel
theorem dX9_foretellSteps_11 : decode cX9_foretellSteps 11 = .ok (.aload_n 0, 1) := by decide +kernel
theorem dX9_foretellSteps_12 : decode cX9_foretellSteps 12 = .ok (.getfield 27, 3) := by decide +kernel
theorem dX9_foretellSteps_15 : decode cX9_foretellSteps 15 = .ok (.iload_n 1, 1) := by decide +kernel
theorem dX9_foretellSteps_16 : decode cX9_foretellSteps 16 = .ok (.putfield 151, 3) := by decide +kernel
theorem dX9_foretellSteps_19 : decode cX9_foretellSteps 19 = .ok (.aload_n 0, 1) := by decide +kernel
theorem dX9_foretellSteps_20 : decode cX9_foretellSteps 20 = .ok (.getfield 27, 3) := by decide +kernel
theorem dX9_foretellSteps_23 : decode cX9_foretellSteps 23 = .ok (.iload_n 2, 1) := by decide +kernel
theorem dX9_foretellSteps_24 : decode cX9_foretellSteps 24 = .ok (.invokevirtual 245, 3) := by decide +kernel
theorem dX9_foretellSteps_27 : decode cX9_foretellSteps 27 = .ok (.aload_n 0, 1) := by decide +kernel
theorem dX9_foretellSteps_28 : decode cX9_foretellSteps 28 = .ok (.getfield 27, 3) := by decide +kernel
theorem dX9_foretellSteps_31 : decode cX9_foretellSteps 31 = .ok (.getfield 157, 3) := by decide +kernel
theorem dX9_foretellSteps_34 : decode cX9_foretellSteps 34 = .ok (.getfield 175, 3) := by decide +kernel
theorem dX9_foretellSteps_37 : decode cX9_foretellSteps 37 = .ok (.ireturn, 1) := by decide +kernel
set_option maxRecDepth 20000 in
theorem ggX9_writeRow_X9_requireSetup : GoodIn wsX9_writeRow wsX9_requireSetup := goodIn_ca (goodIn_r _ [12, 13, 14, 15, 226, 227, 228, 229, 230, 231, 232, 233] (by decide +kernel) (by decide +kernel)) (goodIn_sub (fun _ h => List.mem_cons_of_mem _ (List.mem_append_left _ (List.mem_append_right _ h))) (by decide +kernel))
set_option maxRecDepth 20000 in
theorem gX9_writeRow_X9_requireSetup : GoodIn wsX9_writeRow (wsV RX9 94 RX9 yX9_requireSetup wsX9_requireSetup) := goodIn_app (goodIn_of _ (by decide +kernel)) ggX9_writeRow_X9_requireSetup
set_option maxRecDepth 20000 in
theorem ggX9_writeRow_J4_setLength_d00df : GoodIn wsX9_writeRow wsJ4_setLength_d00df := goodIn_r _ [20, 21, 22, 23, 24, 25, 26, 27, 28, 29, 30, 31, 32, 33, 34, 35, 36, 37, 38, 39, 40, 41, 42, 43, 44, 45, 46, 47, 48, 49, 50, 51, 52, 53, 54, 55, 56, 57, 58, 59, 60, 61, 62, 63, 64, 65, 66, 67, 68, 69, 70, 71, 72, 73, 74, 75, 76, 77, 78, 79, 80, 81, 82, 83, 84, 85, 86, 87, 88, 89, 90, 91, 92, 19, 93, 94, 95, 96, 97, 98, 99, 100, 261, 262, 263, 264, 265, 266, 267, 268, 269, 270, 271, 272, 273, 274, 275, 276] (by decide +kernel) (by decide +kernel)
set_option maxRecDepth 20000 in
theorem gX9_writeRow_J4_setLength_d00df : GoodIn wsX9_writeRow (wsV RX9 253 RJ4 yJ4_setLength_d00df wsJ4_setLength_d00df) := goodIn_app (goodIn_of _ (by decide +kernel)) ggX9_writeRow_J4_setLength_d00df
set_option maxRecDepth 20000 in
theorem ggX9_writeRow_X8_picture : GoodIn wsX9_writeRow wsX8_picture := goodIn_ca (goodIn_r _ [105, 106, 107, 108, 109, 110, 111, 112, 11, 113, 114, 115, 116, 104, 117, 118, 119, 120, 121, 122, 123, 124, 125, 126, 127, 128, 129, 130, 131, 132, 133, 134, 135, 136, 137, 138, 139, 140, 141, 142, 143, 144, 145, 146, 147, 148, 149, 150, 151, 152, 153, 154, 155, 234, 235, 236, 237, 238, 239, 240, 241, 242, 243, 244, 245, 246, 247, 277, 278, 279, 280, 281, 282, 283, 284, 285, 248, 249, 250, 251, 252, 253, 254, 255, 256, 257, 258, 259, 260] (by decide +kernel) (by decide +kernel)) (goodIn_sub (fun _ h => List.mem_cons_of_mem _ (List.mem_append_right _ h)) (by decide +kernel))
set_option maxRecDepth 20000 in
theorem gX9_writeRow_X8_picture : GoodIn wsX9_writeRow (wsV RX9 256 RX8 yX8_picture wsX8_picture) := goodIn_app (goodIn_of _ (by decide +kernel)) ggX9_writeRow_X8_picture
set_option maxRecDepth 20000 in
theorem ggX9_writeRow_J4_append_cf468 : GoodIn wsX9_writeRow wsJ4_append_cf468 := goodIn_r _ [159, 160, 161, 23, 162, 25, 163, 30, 31, 33, 34, 35, 36, 37, 38, 39, 40, 41, 42, 43, 44, 45, 46, 47, 48, 49, 50, 51, 52, 53, 54, 55, 56, 57, 58, 59, 60, 61, 62, 63, 64, 65, 66, 67, 68, 69, 70, 71, 72, 73, 74, 75, 76, 77, 78, 79, 80, 164, 165, 83, 166, 167, 168, 169, 170, 171, 172, 173, 98, 174, 175, 176, 177, 178, 179, 180, 181, 182, 183, 184, 185, 186, 187, 188, 189, 190, 191, 192, 193, 194, 195, 196, 197, 198, 199, 200, 201, 202, 203, 204, 205, 206, 207, 208, 209, 210, 211, 212, 213, 214, 215, 216, 217, 267, 268, 269, 270] (by decide +kernel) (by decide +kernel)
set_option maxRecDepth 20000 in
theorem gX9_writeRow_J4_append_cf468 : GoodIn wsX9_writeRow (wsV RX9 260 RJ4 yJ4_append_cf468 wsJ4_append_cf468) := goodIn_app (goodIn_of _ (by decide +kernel)) ggX9_writeRow_J4_append_cf468
set_option maxRecDepth 20000 in
theorem ggX9_writeRow_J4_length_8abf5 : GoodIn wsX9_writeRow wsJ4_length_8abf5 := goodIn_r _ [221, 222, 223, 23, 224, 25, 225, 30, 267, 268, 269, 270] (by decide +kernel) (by decide +kernel)
set_option maxRecDepth 20000 in
theorem gX9_writeRow_J4_length_8abf5 : GoodIn wsX9_writeRow (wsV RX9 264 RJ4 yJ4_length_8abf5 wsJ4_length_8abf5) := goodIn_app (goodIn_of _ (by decide +kernel)) ggX9_writeRow_J4_length_8abf5
theorem dX9_writeRow_0 : decode cX9_writeRow 0 = .ok (.aload_n 0, 1) := by decide +kernel
theorem dX9_writeRow_1 : decode cX9_writeRow 1 = .ok (.invokevirtual 94, 3) := by decide +kernel
theorem dX9_writeRow_4 : decode cX9_writeRow 4 = .ok (.iload_n 1, 1) := by decide +kernel
theorem dX9_writeRow_5 : decode cX9_writeRow 5 = .ok (.ifCond .lt 17, 3) := by decide +kernel
theorem dX9_writeRow_8 : decode cX9_writeRow 8 = .ok (.iload_n 1, 1) := by decide +kernel
theorem dX9_writeRow_9 : decode cX9_writeRow 9 = .ok (.aload_n 0, 1) := by decide +kernel
theorem dX9_writeRow_10 : decode cX9_writeRow 10 = .ok (.getfield 23, 3) := by decide +kernel
theorem dX9_writeRow_13 : decode cX9_writeRow 13 = .ok (.getfield 97, 3) := by decide +kernel
theorem dX9_writeRow_16 : decode cX9_writeRow 16 = .ok (.getfield 101, 3) := by decide +kernel
theorem dX9_writeRow_19 : decode cX9_writeRow 19 = .ok (.if_icmp .lt 13, 3) := by decide +kernel
theorem dX9_writeRow_22 : decode cX9_writeRow 22 = .ok (.new 62, 3) := by decide +kernel
theorem dX9_writeRow_25 : decode cX9_writeRow 25 = .ok (.dup, 1) := by decide +kernel
theorem dX9_writeRow_26 : decode cX9_writeRow 26 = .ok (.ldc 251, 2) := by decide +kernel
theorem dX9_writeRow_28 : decode cX9_writeRow 28 = .ok (.invokespecial 66, 3) := by decide +kernel
theorem dX9_writeRow_31 : decode cX9_writeRow 31 = .ok (.athrow, 1) := by decide +kernel
theorem dX9_writeRow_32 : decode cX9_writeRow 32 = .ok (.aload_n 0, 1) := by decide +kernel
theorem dX9_writeRow_33 : decode cX9_writeRow 33 = .ok (.getfield 16, 3) := by decide +kernel
theorem dX9_writeRow_36 : decode cX9_writeRow 36 = .ok (.iconst 0, 1) := by decide +kernel
theorem dX9_writeRow_37 : decode cX9_writeRow 37 = .ok (.invokevirtual 253, 3) := by decide +kernel
theorem dX9_writeRow_40 : decode cX9_writeRow 40 = .ok (.iconst 0, 1) := by decide +kernel
theorem dX9_writeRow_41 : decode cX9_writeRow 41 = .ok (.istore_n 2, 1) := by decide +kernel
theorem dX9_writeRow_42 : decode cX9_writeRow 42 = .ok (.iload_n 2, 1) := by decide +kernel
theorem dX9_writeRow_43 : decode cX9_writeRow 43 = .ok (.aload_n 0, 1) := by decide +kernel
theorem dX9_writeRow_44 : decode cX9_writeRow 44 = .ok (.getfield 23, 3) := by decide +kernel
theorem dX9_writeRow_47 : decode cX9_writeRow 47 = .ok (.getfield 97, 3) := by decide +kernel
theorem dX9_writeRow_50 : decode cX9_writeRow 50 = .ok (.getfield 106, 3) := by decide +kernel
theorem dX9_writeRow_53 : decode cX9_writeRow 53 = .ok (.if_icmp .ge 38, 3) := by decide +kernel
theorem dX9_writeRow_56 : decode cX9_writeRow 56 = .ok (.aload_n 0, 1) := by decide +kernel
theorem dX9_writeRow_57 : decode cX9_writeRow 57 = .ok (.getfield 16, 3) := by decide +kernel
theorem dX9_writeRow_60 : decode cX9_writeRow 60 = .ok (.aload_n 0, 1) := by decide +kernel
theorem dX9_writeRow_61 : decode cX9_writeRow 61 = .ok (.getfield 23, 3) := by decide +kernel
theorem dX9_writeRow_64 : decode cX9_writeRow 64 = .ok (.iload_n 1, 1) := by decide +kernel
theorem dX9_writeRow_65 : decode cX9_writeRow 65 = .ok (.aload_n 0, 1) := by decide +kernel
theorem dX9_writeRow_66 : decode cX9_writeRow 66 = .ok (.getfield 23, 3) := by decide +kernel
theorem dX9_writeRow_69 : decode cX9_writeRow 69 = .ok (.getfield 97, 3) := by decide +kernel
theorem dX9_writeRow_72 : decode cX9_writeRow 72 = .ok (.getfield 106, 3) := by decide +kernel
theorem dX9_writeRow_75 : decode cX9_writeRow 75 = .ok (.imul, 1) := by decide +kernel
theorem dX9_writeRow_76 : decode cX9_writeRow 76 = .ok (.iload_n 2, 1) := by decide +kernel
theorem dX9_writeRow_77 : decode cX9_writeRow 77 = .ok (.iadd, 1) := by decide +kernel
theorem dX9_writeRow_78 : decode cX9_writeRow 78 = .ok (.invokevirtual 256, 3) := by decide +kernel
theorem dX9_writeRow_81 : decode cX9_writeRow 81 = .ok (.invokevirtual 260, 3) := by decide +kernel
theorem dX9_writeRow_84 : decode cX9_writeRow 84 = .ok (.pop, 1) := by decide +kernel
theorem dX9_writeRow_85 : decode cX9_writeRow 85 = .ok (.iinc 2 1, 3) := by decide +kernel
theorem dX9_writeRow_88 : decode cX9_writeRow 88 = .ok (.goto (-46), 3) := by decide +kernel
theorem dX9_writeRow_91 : decode cX9_writeRow 91 = .ok (.aload_n 0, 1) := by decide +kernel
theorem dX9_writeRow_92 : decode cX9_writeRow 92 = .ok (.getfield 16, 3) := by decide +kernel
theorem dX9_writeRow_95 : decode cX9_writeRow 95 = .ok (.invokevirtual 264, 3) := by decide +kernel
theorem dX9_writeRow_98 : decode cX9_writeRow 98 = .ok (.ireturn, 1) := by decide +kernel
set_option maxRecDepth 20000 in
theorem ggX9_writeRecords_X9_requireSetup : GoodIn wsX9_writeRecords wsX9_requireSetup := goodIn_ca (goodIn_r _ [11, 12, 13, 14, 207, 208, 209, 210, 211, 212, 213, 214] (by decide +kernel) (by decide +kernel)) (goodIn_sub (fun _ h => List.mem_cons_of_mem _ (List.mem_append_left _ (List.mem_append_right _ h))) (by decide +kernel))
set_option maxRecDepth 20000 in
theorem gX9_writeRecords_X9_requireSetup : GoodIn wsX9_writeRecords (wsV RX9 94 RX9 yX9_requireSetup wsX9_requireSetup) := goodIn_app (goodIn_of _ (by decide +kernel)) ggX9_writeRecords_X9_requireSetup
set_option maxRecDepth 20000 in
theorem ggX9_writeRecords_J4_setLength_d00df : GoodIn wsX9_writeRecords wsJ4_setLength_d00df := goodIn_r _ [19, 20, 21, 22, 23, 24, 25, 26, 27, 28, 29, 30, 31, 32, 33, 34, 35, 36, 37, 38, 39, 40, 41, 42, 43, 44, 45, 46, 47, 48, 49, 50, 51, 52, 53, 54, 55, 56, 57, 58, 59, 60, 61, 62, 63, 64, 65, 66, 67, 68, 69, 70, 71, 72, 73, 74, 75, 76, 77, 78, 79, 80, 81, 82, 83, 84, 85, 86, 87, 88, 89, 90, 91, 18, 92, 93, 94, 95, 96, 97, 98, 99, 232, 233, 234, 235, 236, 237, 238, 239, 240, 241, 242, 243, 244, 245, 246, 247] (by decide +kernel) (by decide +kernel)
set_option maxRecDepth 20000 in
theorem gX9_writeRecords_J4_setLength_d00df : GoodIn wsX9_writeRecords (wsV RX9 253 RJ4 yJ4_setLength_d00df wsJ4_setLength_d00df) := goodIn_app (goodIn_of _ (by decide +kernel)) ggX9_writeRecords_J4_setLength_d00df
set_option maxRecDepth 20000 in
theorem ggX9_writeRecords_J4_append_cf468 : GoodIn wsX9_writeRecords wsJ4_append_cf468 := goodIn_r _ [103, 104, 105, 22, 106, 24, 107, 29, 30, 32, 33, 34, 35, 36, 37, 38, 39, 40, 41, 42, 43, 44, 45, 46, 47, 48, 49, 50, 51, 52, 53, 54, 55, 56, 57, 58, 59, 60, 61, 62, 63, 64, 65, 66, 67, 68, 69, 70, 71, 72, 73, 74, 75, 76, 77, 78, 79, 108, 109, 82, 110, 111, 112, 113, 114, 115, 116, 117, 97, 118, 119, 120, 121, 122, 123, 124, 125, 126, 127, 128, 129, 130, 131, 132, 133, 134, 135, 136, 137, 138, 139, 140, 141, 142, 143, 144, 145, 146, 147, 148, 149, 150, 151, 152, 153, 154, 155, 156, 157, 158, 159, 160, 161, 238, 239, 240, 241] (by decide +kernel) (by decide +kernel)
set_option maxRecDepth 20000 in
theorem gX9_writeRecords_J4_append_cf468 : GoodIn wsX9_writeRecords (wsV RX9 260 RJ4 yJ4_append_cf468 wsJ4_append_cf468) := goodIn_app (goodIn_of _ (by decide +kernel)) ggX9_writeRecords_J4_append_cf468
set_option maxRecDepth 20000 in
theorem ggX9_writeRecords_X9_at : GoodIn wsX9_writeRecords wsX9_at := goodIn_ca (goodIn_r _ [164] (by decide +kernel) (by decide +kernel)) (goodIn_sub (fun _ h => List.mem_cons_of_mem _ (List.mem_append_right _ h)) (by decide +kernel))
set_option maxRecDepth 20000 in
theorem gX9_writeRecords_X9_at : GoodIn wsX9_writeRecords (va_wsS RX9 141 yX9_at wsX9_at) := goodIn_app (goodIn_of _ (by decide +kernel)) ggX9_writeRecords_X9_at
set_option maxRecDepth 20000 in
theorem ggX9_writeRecords_J4_append_bf812 : GoodIn wsX9_writeRecords wsJ4_append_bf812 := goodIn_r _ [168, 169, 170, 22, 171, 24, 172, 29, 30, 173, 174, 175, 176, 32, 33, 34, 35, 36, 37, 38, 39, 40, 41, 42, 43, 44, 45, 46, 47, 48, 49, 50, 51, 52, 53, 54, 55, 56, 57, 58, 59, 60, 61, 62, 63, 64, 65, 66, 67, 68, 69, 70, 71, 72, 73, 74, 75, 76, 77, 78, 79, 177, 178, 179, 180, 181, 182, 183, 97, 184, 147, 185, 186, 187, 132, 133, 134, 188, 189, 137, 190, 139, 191, 192, 142, 193, 194, 195, 196, 197, 198, 144, 145, 146, 148, 149, 238, 239, 240, 241] (by decide +kernel) (by decide +kernel)
set_option maxRecDepth 20000 in
theorem gX9_writeRecords_J4_append_bf812 : GoodIn wsX9_writeRecords (wsV RX9 267 RJ4 yJ4_append_bf812 wsJ4_append_bf812) := goodIn_app (goodIn_of _ (by decide +kernel)) ggX9_writeRecords_J4_append_bf812
set_option maxRecDepth 20000 in
theorem ggX9_writeRecords_J4_length_8abf5 : GoodIn wsX9_writeRecords wsJ4_length_8abf5 := goodIn_r _ [202, 203, 204, 22, 205, 24, 206, 29, 238, 239, 240, 241] (by decide +kernel) (by decide +kernel)
set_option maxRecDepth 20000 in
theorem gX9_writeRecords_J4_length_8abf5 : GoodIn wsX9_writeRecords (wsV RX9 264 RJ4 yJ4_length_8abf5 wsJ4_length_8abf5) := goodIn_app (goodIn_of _ (by decide +kernel)) ggX9_writeRecords_J4_length_8abf5
theorem dX9_writeRecords_0 : decode cX9_writeRecords 0 = .ok (.aload_n 0, 1) := by decide +kernel
theorem dX9_writeRecords_1 : decode cX9_writeRecords 1 = .ok (.invokevirtual 94, 3) := by decide +kernel
theorem dX9_writeRecords_4 : decode cX9_writeRecords 4 = .ok (.aload_n 0, 1) := by decide +kernel
theorem dX9_writeRecords_5 : decode cX9_writeRecords 5 = .ok (.getfield 23, 3) := by decide +kernel
theorem dX9_writeRecords_8 : decode cX9_writeRecords 8 = .ok (.getfield 212, 3) := by decide +kernel
theorem dX9_writeRecords_11 : decode cX9_writeRecords 11 = .ok (.astore_n 1, 1) := by decide +kernel
theorem dX9_writeRecords_12 : decode cX9_writeRecords 12 = .ok (.aload_n 0, 1) := by decide +kernel
theorem dX9_writeRecords_13 : decode cX9_writeRecords 13 = .ok (.getfield 16, 3) := by decide +kernel
theorem dX9_writeRecords_16 : decode cX9_writeRecords 16 = .ok (.iconst 0, 1) := by decide +kernel
theorem dX9_writeRecords_17 : decode cX9_writeRecords 17 = .ok (.invokevirtual 253, 3) := by decide +kernel
theorem dX9_writeRecords_20 : decode cX9_writeRecords 20 = .ok (.aload_n 1, 1) := by decide +kernel
theorem dX9_writeRecords_21 : decode cX9_writeRecords 21 = .ok (.getfield 216, 3) := by decide +kernel
theorem dX9_writeRecords_24 : decode cX9_writeRecords 24 = .ok (.ifCond .ne 13, 3) := by decide +kernel
theorem dX9_writeRecords_27 : decode cX9_writeRecords 27 = .ok (.aload_n 0, 1) := by decide +kernel
theorem dX9_writeRecords_28 : decode cX9_writeRecords 28 = .ok (.getfield 16, 3) := by decide +kernel
theorem dX9_writeRecords_31 : decode cX9_writeRecords 31 = .ok (.bipush 45, 2) := by decide +kernel
theorem dX9_writeRecords_33 : decode cX9_writeRecords 33 = .ok (.invokevirtual 260, 3) := by decide +kernel
theorem dX9_writeRecords_36 : decode cX9_writeRecords 36 = .ok (.pop, 1) := by decide +kernel
theorem dX9_writeRecords_37 : decode cX9_writeRecords 37 = .ok (.iconst 0, 1) := by decide +kernel
theorem dX9_writeRecords_38 : decode cX9_writeRecords 38 = .ok (.istore_n 2, 1) := by decide +kernel
theorem dX9_writeRecords_39 : decode cX9_writeRecords 39 = .ok (.iload_n 2, 1) := by decide +kernel
theorem dX9_writeRecords_40 : decode cX9_writeRecords 40 = .ok (.aload_n 1, 1) := by decide +kernel
theorem dX9_writeRecords_41 : decode cX9_writeRecords 41 = .ok (.getfield 216, 3) := by decide +kernel
theorem dX9_writeRecords_44 : decode cX9_writeRecords 44 = .ok (.if_icmp .ge 65, 3) := by decide +kernel
theorem dX9_writeRecords_47 : decode cX9_writeRecords 47 = .ok (.iload_n 2, 1) := by decide +kernel
theorem dX9_writeRecords_48 : decode cX9_writeRecords 48 = .ok (.ifCond .le 13, 3) := by decide +kernel
theorem dX9_writeRecords_51 : decode cX9_writeRecords 51 = .ok (.aload_n 0, 1) := by decide +kernel
theorem dX9_writeRecords_52 : decode cX9_writeRecords 52 = .ok (.getfield 16, 3) := by decide +kernel
theorem dX9_writeRecords_55 : decode cX9_writeRecords 55 = .ok (.bipush 32, 2) := by decide +kernel
theorem dX9_writeRecords_57 : decode cX9_writeRecords 57 = .ok (.invokevirtual 260, 3) := by decide +kernel
theorem dX9_writeRecords_60 : decode cX9_writeRecords 60 = .ok (.pop, 1) := by decide +kernel
theorem dX9_writeRecords_61 : decode cX9_writeRecords 61 = .ok (.aload_n 0, 1) := by decide +kernel
theorem dX9_writeRecords_62 : decode cX9_writeRecords 62 = .ok (.getfield 16, 3) := by decide +kernel
theorem dX9_writeRecords_65 : decode cX9_writeRecords 65 = .ok (.aload_n 1, 1) := by decide +kernel
theorem dX9_writeRecords_66 : decode cX9_writeRecords 66 = .ok (.getfield 224, 3) := by decide +kernel
theorem dX9_writeRecords_69 : decode cX9_writeRecords 69 = .ok (.iload_n 2, 1) := by decide +kernel
theorem dX9_writeRecords_70 : decode cX9_writeRecords 70 = .ok (.invokestatic 141, 3) := by decide +kernel
theorem dX9_writeRecords_73 : decode cX9_writeRecords 73 = .ok (.invokevirtual 267, 3) := by decide +kernel
theorem dX9_writeRecords_76 : decode cX9_writeRecords 76 = .ok (.pop, 1) := by decide +kernel
theorem dX9_writeRecords_77 : decode cX9_writeRecords 77 = .ok (.aload_n 0, 1) := by decide +kernel
theorem dX9_writeRecords_78 : decode cX9_writeRecords 78 = .ok (.getfield 16, 3) := by decide +kernel
theorem dX9_writeRecords_81 : decode cX9_writeRecords 81 = .ok (.bipush 58, 2) := by decide +kernel
theorem dX9_writeRecords_83 : decode cX9_writeRecords 83 = .ok (.invokevirtual 260, 3) := by decide +kernel
theorem dX9_writeRecords_86 : decode cX9_writeRecords 86 = .ok (.pop, 1) := by decide +kernel
theorem dX9_writeRecords_87 : decode cX9_writeRecords 87 = .ok (.aload_n 0, 1) := by decide +kernel
theorem dX9_writeRecords_88 : decode cX9_writeRecords 88 = .ok (.getfield 16, 3) := by decide +kernel
theorem dX9_writeRecords_91 : decode cX9_writeRecords 91 = .ok (.aload_n 1, 1) := by decide +kernel
theorem dX9_writeRecords_92 : decode cX9_writeRecords 92 = .ok (.getfield 227, 3) := by decide +kernel
theorem dX9_writeRecords_95 : decode cX9_writeRecords 95 = .ok (.iload_n 2, 1) := by decide +kernel
theorem dX9_writeRecords_96 : decode cX9_writeRecords 96 = .ok (.invokestatic 141, 3) := by decide +kernel
theorem dX9_writeRecords_99 : decode cX9_writeRecords 99 = .ok (.invokevirtual 267, 3) := by decide +kernel
theorem dX9_writeRecords_102 : decode cX9_writeRecords 102 = .ok (.pop, 1) := by decide +kernel
theorem dX9_writeRecords_103 : decode cX9_writeRecords 103 = .ok (.iinc 2 1, 3) := by decide +kernel
theorem dX9_writeRecords_106 : decode cX9_writeRecords 106 = .ok (.goto (-67), 3) := by decide +kernel
theorem dX9_writeRecords_109 : decode cX9_writeRecords 109 = .ok (.aload_n 0, 1) := by decide +kernel
theorem dX9_writeRecords_110 : decode cX9_writeRecords 110 = .ok (.getfield 16, 3) := by decide +kernel
theorem dX9_writeRecords_113 : decode cX9_writeRecords 113 = .ok (.invokevirtual 264, 3) := by decide +kernel
theorem dX9_writeRecords_116 : decode cX9_writeRecords 116 = .ok (.ireturn, 1) := by decide +kernel
set_option maxRecDepth 20000 in
theorem ggX9_outputByte_J4_length_8abf5 : GoodIn wsX9_outputByte wsJ4_length_8abf5 := goodIn_r _ [8, 9, 10, 11, 12, 13, 14, 15, 57, 58, 59, 60] (by decide +kernel) (by decide +kernel)
set_option maxRecDepth 20000 in
theorem gX9_outputByte_J4_length_8abf5 : GoodIn wsX9_outputByte (wsV RX9 264 RJ4 yJ4_length_8abf5 wsJ4_length_8abf5) := goodIn_app (goodIn_of _ (by decide +kernel)) ggX9_outputByte_J4_length_8abf5
set_option maxRecDepth 20000 in
theorem ggX9_outputByte_J4_charAt_5068e : GoodIn wsX9_outputByte wsJ4_charAt_5068e := goodIn_r _ [19, 20, 21, 11, 22, 13, 23, 24, 25, 15, 26, 27, 28, 29, 30, 31, 32, 33, 34, 35, 36, 37, 38, 39, 40, 41, 42, 43, 44, 45, 46, 47, 48, 57, 58, 59, 60] (by decide +kernel) (by decide +kernel)
set_option maxRecDepth 20000 in
theorem gX9_outputByte_J4_charAt_5068e : GoodIn wsX9_outputByte (wsV RX9 272 RJ4 yJ4_charAt_5068e wsJ4_charAt_5068e) := goodIn_app (goodIn_of _ (by decide +kernel)) ggX9_outputByte_J4_charAt_5068e
theorem dX9_outputByte_0 : decode cX9_outputByte 0 = .ok (.iload_n 1, 1) := by decide +kernel
theorem dX9_outputByte_1 : decode cX9_outputByte 1 = .ok (.ifCond .lt 14, 3) := by decide +kernel
theorem dX9_outputByte_4 : decode cX9_outputByte 4 = .ok (.iload_n 1, 1) := by decide +kernel
theorem dX9_outputByte_5 : decode cX9_outputByte 5 = .ok (.aload_n 0, 1) := by decide +kernel
theorem dX9_outputByte_6 : decode cX9_outputByte 6 = .ok (.getfield 16, 3) := by decide +kernel
theorem dX9_outputByte_9 : decode cX9_outputByte 9 = .ok (.invokevirtual 264, 3) := by decide +kernel
theorem dX9_outputByte_12 : decode cX9_outputByte 12 = .ok (.if_icmp .lt 14, 3) := by decide +kernel
theorem dX9_outputByte_15 : decode cX9_outputByte 15 = .ok (.new 62, 3) := by decide +kernel
theorem dX9_outputByte_18 : decode cX9_outputByte 18 = .ok (.dup, 1) := by decide +kernel
theorem dX9_outputByte_19 : decode cX9_outputByte 19 = .ok (.ldc_w 270, 3) := by decide +kernel
theorem dX9_outputByte_22 : decode cX9_outputByte 22 = .ok (.invokespecial 66, 3) := by decide +kernel
theorem dX9_outputByte_25 : decode cX9_outputByte 25 = .ok (.athrow, 1) := by decide +kernel
theorem dX9_outputByte_26 : decode cX9_outputByte 26 = .ok (.aload_n 0, 1) := by decide +kernel
theorem dX9_outputByte_27 : decode cX9_outputByte 27 = .ok (.getfield 16, 3) := by decide +kernel
theorem dX9_outputByte_30 : decode cX9_outputByte 30 = .ok (.iload_n 1, 1) := by decide +kernel
theorem dX9_outputByte_31 : decode cX9_outputByte 31 = .ok (.invokevirtual 272, 3) := by decide +kernel
theorem dX9_outputByte_34 : decode cX9_outputByte 34 = .ok (.ireturn, 1) := by decide +kernel
set_option maxRecDepth 20000 in
theorem ggX9_advance_X9_requireSetup : GoodIn wsX9_advance wsX9_requireSetup := goodIn_ca (goodIn_r _ [11, 12, 13, 14, 256, 257, 258, 259, 260, 261, 262, 263] (by decide +kernel) (by decide +kernel)) (goodIn_sub (fun _ h => List.mem_cons_of_mem _ (List.mem_append_left _ (List.mem_append_right _ h))) (by decide +kernel))
set_option maxRecDepth 20000 in
theorem gX9_advance_X9_requireSetup : GoodIn wsX9_advance (wsV RX9 94 RX9 yX9_requireSetup wsX9_requireSetup) := goodIn_app (goodIn_of _ (by decide +kernel)) ggX9_advance_X9_requireSetup
set_option maxRecDepth 20000 in
theorem ggX9_advance_X1_keep : GoodIn wsX9_advance wsX1_keep := goodIn_r _ [19, 20, 21, 22, 23, 24, 25, 26, 27, 28, 18, 29, 30, 31, 32, 33, 34, 35, 36, 37, 38, 39, 40, 41, 42, 43, 44, 45, 46, 47, 48, 49, 50, 51, 52, 53, 54, 55, 56, 57, 58, 59, 60, 61, 62, 63, 64, 65, 66, 67, 10, 68, 69, 70, 71, 72, 73, 74, 75, 76, 77, 78, 79, 80, 81, 82, 83, 84, 85, 86, 87, 88, 89, 90, 91, 92, 93, 94, 95, 287, 288, 289, 290, 291, 264, 265, 266, 267, 268, 269, 270, 271, 272, 273, 274, 275, 276, 277, 292, 293, 294, 295, 296, 297, 298, 299, 300, 301, 302, 303, 304, 278, 279, 280, 281, 282, 283, 284, 285, 286, 305, 306, 307] (by decide +kernel) (by decide +kernel)
set_option maxRecDepth 20000 in
theorem gX9_advance_X1_keep : GoodIn wsX9_advance (wsV RX9 277 RX1 yX1_keep wsX1_keep) := goodIn_app (goodIn_of _ (by decide +kernel)) ggX9_advance_X1_keep
set_option maxRecDepth 20000 in
theorem ggX9_advance_X8_passMinutes : GoodIn wsX9_advance wsX8_passMinutes := goodIn_ca (goodIn_r _ [99, 100, 101, 102, 33, 103, 41, 47, 36, 104, 105, 45, 106, 107, 108, 109, 35, 110, 111, 48, 40, 112, 10, 113, 114, 115, 116, 117, 118, 119, 120, 121, 122, 123, 124, 125, 126, 127, 128, 129, 130, 131, 77, 132, 87, 82, 83, 133, 134, 135, 136, 137, 138, 25, 139, 140, 141, 142, 143, 144, 145, 146, 147, 148, 149, 150, 151, 152, 153, 154, 155, 156, 157, 43, 158, 24, 26, 159, 160, 161, 162, 163, 164, 165, 166, 44, 167, 168, 169, 52, 170, 65, 55, 56, 171, 172, 173, 174, 175, 176, 177, 178, 179, 180, 38, 181, 182, 183, 184, 81, 86, 185, 186, 187, 188, 42, 46, 189, 190, 191, 192, 193, 194, 195, 196, 39, 197, 198, 199, 200, 84, 85, 201, 202, 203, 204, 205, 206, 207, 208, 209, 210, 211, 212, 213, 214, 215, 216, 217, 218, 219, 220, 221, 222, 223, 224, 225, 37, 226, 227, 228, 91, 229, 95, 230, 93, 94, 231, 232, 233, 234, 235, 236, 237, 238, 239, 240, 241, 242, 243, 244, 245, 246, 247, 248, 249, 250, 251, 252, 253, 254, 255, 264, 265, 266, 267, 268, 269, 270, 271, 272, 273, 274, 275, 276, 277, 278, 279, 280, 281, 282, 283, 284, 285, 286, 292, 293, 294, 295, 296, 297, 298, 299, 300, 301, 302, 303, 304, 305, 306, 307] (by decide +kernel) (by decide +kernel)) (goodIn_sub (fun _ h => List.mem_cons_of_mem _ (List.mem_append_right _ h)) (by decide +kernel))
set_option maxRecDepth 20000 in
theorem gX9_advance_X8_passMinutes : GoodIn wsX9_advance (wsV RX9 245 RX8 yX8_passMinutes wsX8_passMinutes) := goodIn_app (goodIn_of _ (by decide +kernel)) ggX9_advance_X8_passMinutes
theorem dX9_advance_0 : decode cX9_advance 0 = .ok (.aload_n 0, 1) := by decide +kernel
theorem dX9_advance_1 : decode cX9_advance 1 = .ok (.invokevirtual 94, 3) := by decide +kernel
theorem dX9_advance_4 : decode cX9_advance 4 = .ok (.iload_n 1, 1) := by decide +kernel
theorem dX9_advance_5 : decode cX9_advance 5 = .ok (.iconst 1, 1) := by decide +kernel
theorem dX9_advance_6 : decode cX9_advance 6 = .ok (.if_icmp .lt 10, 3) := by decide +kernel
theorem dX9_advance_9 : decode cX9_advance 9 = .ok (.iload_n 1, 1) := by decide +kernel
theorem dX9_advance_10 : decode cX9_advance 10 = .ok (.sipush 300, 3) := by decide +kernel
theorem dX9_advance_13 : decode cX9_advance 13 = .ok (.if_icmp .le 14, 3) := by decide +kernel
theorem dX9_advance_16 : decode cX9_advance 16 = .ok (.new 73, 3) := by decide +kernel
theorem dX9_advance_19 : decode cX9_advance 19 = .ok (.dup, 1) := by decide +kernel
theorem dX9_advance_20 : decode cX9_advance 20 = .ok (.ldc_w 275, 3) := by decide +kernel
theorem dX9_advance_23 : decode cX9_advance 23 = .ok (.invokespecial 77, 3) := by decide +kernel
theorem dX9_advance_26 : decode cX9_advance 26 = .ok (.athrow, 1) := by decide +kernel
theorem dX9_advance_27 : decode cX9_advance 27 = .ok (.aload_n 0, 1) := by decide +kernel
theorem dX9_advance_28 : decode cX9_advance 28 = .ok (.getfield 42, 3) := by decide +kernel
theorem dX9_advance_31 : decode cX9_advance 31 = .ok (.aload_n 0, 1) := by decide +kernel
theorem dX9_advance_32 : decode cX9_advance 32 = .ok (.getfield 23, 3) := by decide +kernel
theorem dX9_advance_35 : decode cX9_advance 35 = .ok (.invokevirtual 277, 3) := by decide +kernel
theorem dX9_advance_38 : decode cX9_advance 38 = .ok (.aload_n 0, 1) := by decide +kernel
theorem dX9_advance_39 : decode cX9_advance 39 = .ok (.getfield 23, 3) := by decide +kernel
theorem dX9_advance_42 : decode cX9_advance 42 = .ok (.getfield 157, 3) := by decide +kernel
theorem dX9_advance_45 : decode cX9_advance 45 = .ok (.getfield 175, 3) := by decide +kernel
theorem dX9_advance_48 : decode cX9_advance 48 = .ok (.istore_n 2, 1) := by decide +kernel
theorem dX9_advance_49 : decode cX9_advance 49 = .ok (.aload_n 0, 1) := by decide +kernel
theorem dX9_advance_50 : decode cX9_advance 50 = .ok (.getfield 23, 3) := by decide +kernel
theorem dX9_advance_53 : decode cX9_advance 53 = .ok (.iload_n 1, 1) := by decide +kernel
theorem dX9_advance_54 : decode cX9_advance 54 = .ok (.invokevirtual 245, 3) := by decide +kernel
theorem dX9_advance_57 : decode cX9_advance 57 = .ok (.aload_n 0, 1) := by decide +kernel
theorem dX9_advance_58 : decode cX9_advance 58 = .ok (.getfield 23, 3) := by decide +kernel
theorem dX9_advance_61 : decode cX9_advance 61 = .ok (.getfield 157, 3) := by decide +kernel
theorem dX9_advance_64 : decode cX9_advance 64 = .ok (.getfield 175, 3) := by decide +kernel
theorem dX9_advance_67 : decode cX9_advance 67 = .ok (.iload_n 2, 1) := by decide +kernel
theorem dX9_advance_68 : decode cX9_advance 68 = .ok (.isub, 1) := by decide +kernel
theorem dX9_advance_69 : decode cX9_advance 69 = .ok (.ireturn, 1) := by decide +kernel
set_option maxRecDepth 20000 in
theorem ggX9_setPace_X9_requireSetup : GoodIn wsX9_setPace wsX9_requireSetup := goodIn_ca (goodIn_r _ [8, 9, 10, 11, 99, 100, 101, 102, 103, 104, 105, 106] (by decide +kernel) (by decide +kernel)) (goodIn_sub (fun _ h => List.mem_cons_of_mem _ (List.mem_append_left _ (List.mem_append_right _ h))) (by decide +kernel))
set_option maxRecDepth 20000 in
theorem gX9_setPace_X9_requireSetup : GoodIn wsX9_setPace (wsV RX9 94 RX9 yX9_requireSetup wsX9_requireSetup) := goodIn_app (goodIn_of _ (by decide +kernel)) ggX9_setPace_X9_requireSetup
set_option maxRecDepth 20000 in
theorem ggX9_setPace_X9_requirePace : GoodIn wsX9_setPace wsX9_requirePace := goodIn_ca (goodIn_r _ [15, 16, 17] (by decide +kernel) (by decide +kernel)) (goodIn_sub (fun _ h => List.mem_cons_of_mem _ (List.mem_append_right _ h)) (by decide +kernel))
set_option maxRecDepth 20000 in
theorem gX9_setPace_X9_requirePace : GoodIn wsX9_setPace (wsV RX9 248 RX9 yX9_requirePace wsX9_requirePace) := goodIn_app (goodIn_of _ (by decide +kernel)) ggX9_setPace_X9_requirePace
set_option maxRecDepth 20000 in
theorem ggX9_setPace_X1_keep : GoodIn wsX9_setPace wsX1_keep := goodIn_r _ [22, 23, 24, 25, 26, 27, 28, 29, 30, 31, 21, 32, 33, 34, 35, 36, 37, 38, 39, 40, 41, 42, 43, 44, 45, 46, 47, 48, 49, 50, 51, 52, 53, 54, 55, 56, 57, 58, 59, 60, 61, 62, 63, 64, 65, 66, 67, 68, 69, 70, 7, 71, 72, 73, 74, 75, 76, 77, 78, 79, 80, 81, 82, 83, 84, 85, 86, 87, 88, 89, 90, 91, 92, 93, 94, 95, 96, 97, 98, 121, 122, 123, 124, 125, 107, 108, 109, 110, 111, 112, 113, 114, 115, 116, 117, 118, 119, 120, 126, 127, 128, 129, 130, 131, 132, 133, 134, 135, 136, 137, 138, 139, 140, 141, 142, 143, 144, 145, 146, 147, 148, 149, 150] (by decide +kernel) (by decide +kernel)
set_option maxRecDepth 20000 in
theorem gX9_setPace_X1_keep : GoodIn wsX9_setPace (wsV RX9 277 RX1 yX1_keep wsX1_keep) := goodIn_app (goodIn_of _ (by decide +kernel)) ggX9_setPace_X1_keep
theorem dX9_setPace_0 : decode cX9_setPace 0 = .ok (.aload_n 0, 1) := by decide +kernel
theorem dX9_setPace_1 : decode cX9_setPace 1 = .ok (.invokevirtual 94, 3) := by decide +kernel
theorem dX9_setPace_4 : decode cX9_setPace 4 = .ok (.aload_n 0, 1) := by decide +kernel
theorem dX9_setPace_5 : decode cX9_setPace 5 = .ok (.iload_n 1, 1) := by decide +kernel
theorem dX9_setPace_6 : decode cX9_setPace 6 = .ok (.invokevirtual 248, 3) := by decide +kernel
theorem dX9_setPace_9 : decode cX9_setPace 9 = .ok (.aload_n 0, 1) := by decide +kernel
theorem dX9_setPace_10 : decode cX9_setPace 10 = .ok (.getfield 42, 3) := by decide +kernel
theorem dX9_setPace_13 : decode cX9_setPace 13 = .ok (.aload_n 0, 1) := by decide +kernel
theorem dX9_setPace_14 : decode cX9_setPace 14 = .ok (.getfield 23, 3) := by decide +kernel
theorem dX9_setPace_17 : decode cX9_setPace 17 = .ok (.invokevirtual 277, 3) := by decide +kernel
theorem dX9_setPace_20 : decode cX9_setPace 20 = .ok (.aload_n 0, 1) := by decide +kernel
theorem dX9_setPace_21 : decode cX9_setPace 21 = .ok (.getfield 23, 3) := by decide +kernel
theorem dX9_setPace_24 : decode cX9_setPace 24 = .ok (.getfield 151, 3) := by decide +kernel
theorem dX9_setPace_27 : decode cX9_setPace 27 = .ok (.istore_n 2, 1) := by decide +kernel
theorem dX9_setPace_28 : decode cX9_setPace 28 = .ok (.aload_n 0, 1) := by decide +kernel
theorem dX9_setPace_29 : decode cX9_setPace 29 = .ok (.getfield 23, 3) := by decide +kernel
theorem dX9_setPace_32 : decode cX9_setPace 32 = .ok (.iload_n 1, 1) := by decide +kernel
theorem dX9_setPace_33 : decode cX9_setPace 33 = .ok (.putfield 151, 3) := by decide +kernel
theorem dX9_setPace_36 : decode cX9_setPace 36 = .ok (.iload_n 2, 1) := by decide +kernel
theorem dX9_setPace_37 : decode cX9_setPace 37 = .ok (.ireturn, 1) := by decide +kernel
set_option maxRecDepth 20000 in
theorem ggX9_setCurtain_X9_requireSetup : GoodIn wsX9_setCurtain wsX9_requireSetup := goodIn_ca (goodIn_r _ [8, 9, 10, 11, 107, 108, 109, 110, 111, 112, 113, 114] (by decide +kernel) (by decide +kernel)) (goodIn_sub (fun _ h => List.mem_cons_of_mem _ (List.mem_append_left _ (List.mem_append_left _ (List.mem_append_right _ h)))) (by decide +kernel))
set_option maxRecDepth 20000 in
theorem gX9_setCurtain_X9_requireSetup : GoodIn wsX9_setCurtain (wsV RX9 94 RX9 yX9_requireSetup wsX9_requireSetup) := goodIn_app (goodIn_of _ (by decide +kernel)) ggX9_setCurtain_X9_requireSetup
set_option maxRecDepth 20000 in
theorem ggX9_setCurtain_X9_requireColumn : GoodIn wsX9_setCurtain wsX9_requireColumn := goodIn_ca (goodIn_r _ [15, 16, 17, 2, 18, 19, 107, 108, 109, 110, 111, 112, 113, 114, 115, 116, 117, 118, 119, 120, 121, 122, 123, 124, 125, 126, 127, 128, 129, 130, 131, 132, 133, 134, 135, 136, 137, 138, 139, 140, 141] (by decide +kernel) (by decide +kernel)) (goodIn_sub (fun _ h => List.mem_cons_of_mem _ (List.mem_append_left _ (List.mem_append_right _ h))) (by decide +kernel))
set_option maxRecDepth 20000 in
theorem gX9_setCurtain_X9_requireColumn : GoodIn wsX9_setCurtain (wsV RX9 135 RX9 yX9_requireColumn wsX9_requireColumn) := goodIn_app (goodIn_of _ (by decide +kernel)) ggX9_setCurtain_X9_requireColumn
set_option maxRecDepth 20000 in
theorem ggX9_setCurtain_X1_keep : GoodIn wsX9_setCurtain wsX1_keep := goodIn_r _ [24, 25, 26, 27, 28, 29, 30, 31, 32, 33, 23, 34, 35, 36, 37, 38, 39, 40, 41, 42, 43, 44, 45, 46, 47, 48, 49, 50, 51, 52, 53, 54, 55, 56, 57, 58, 59, 60, 61, 62, 63, 64, 65, 66, 67, 68, 69, 70, 71, 72, 7, 73, 74, 75, 76, 77, 78, 79, 80, 81, 82, 83, 84, 85, 86, 87, 88, 89, 90, 91, 92, 93, 94, 95, 96, 97, 98, 99, 100, 142, 143, 144, 145, 146, 115, 116, 117, 118, 119, 120, 121, 122, 123, 124, 125, 126, 127, 128, 129, 130, 131, 132, 133, 134, 135, 136, 137, 138, 139, 140, 141, 147, 148, 149, 150, 151, 152, 153, 154, 155, 156, 157, 158] (by decide +kernel) (by decide +kernel)
set_option maxRecDepth 20000 in
theorem gX9_setCurtain_X1_keep : GoodIn wsX9_setCurtain (wsV RX9 277 RX1 yX1_keep wsX1_keep) := goodIn_app (goodIn_of _ (by decide +kernel)) ggX9_setCurtain_X1_keep
set_option maxRecDepth 20000 in
theorem ggX9_setCurtain_X9_at : GoodIn wsX9_setCurtain wsX9_at := goodIn_ca (goodIn_r _ [103] (by decide +kernel) (by decide +kernel)) (goodIn_sub (fun _ h => List.mem_cons_of_mem _ (List.mem_append_right _ h)) (by decide +kernel))
set_option maxRecDepth 20000 in
theorem gX9_setCurtain_X9_at : GoodIn wsX9_setCurtain (va_wsS RX9 141 yX9_at wsX9_at) := goodIn_app (goodIn_of _ (by decide +kernel)) ggX9_setCurtain_X9_at
set_option maxRecDepth 20000 in
theorem ggX9_setCurtain_X9_put : GoodIn wsX9_setCurtain wsX9_put := goodIn_ca (goodIn_r _ [106] (by decide +kernel) (by decide +kernel)) (goodIn_sub (fun _ h => List.mem_cons_of_mem _ (List.mem_append_right _ h)) (by decide +kernel))
set_option maxRecDepth 20000 in
theorem gX9_setCurtain_X9_put : GoodIn wsX9_setCurtain (va_wsS RX9 58 yX9_put wsX9_put) := goodIn_app (goodIn_of _ (by decide +kernel)) ggX9_setCurtain_X9_put
theorem dX9_setCurtain_0 : decode cX9_setCurtain 0 = .ok (.aload_n 0, 1) := by decide +kernel
theorem dX9_setCurtain_1 : decode cX9_setCurtain 1 = .ok (.invokevirtual 94, 3) := by decide +kernel
theorem dX9_setCurtain_4 : decode cX9_setCurtain 4 = .ok (.aload_n 0, 1) := by decide +kernel
theorem dX9_setCurtain_5 : decode cX9_setCurtain 5 = .ok (.iload_n 1, 1) := by decide +kernel
theorem dX9_setCurtain_6 : decode cX9_setCurtain 6 = .ok (.invokevirtual 135, 3) := by decide +kernel
theorem dX9_setCurtain_9 : decode cX9_setCurtain 9 = .ok (.aload_n 0, 1) := by decide +kernel
theorem dX9_setCurtain_10 : decode cX9_setCurtain 10 = .ok (.getfield 42, 3) := by decide +kernel
theorem dX9_setCurtain_13 : decode cX9_setCurtain 13 = .ok (.aload_n 0, 1) := by decide +kernel
theorem dX9_setCurtain_14 : decode cX9_setCurtain 14 = .ok (.getfield 23, 3) := by decide +kernel
theorem dX9_setCurtain_17 : decode cX9_setCurtain 17 = .ok (.invokevirtual 277, 3) := by decide +kernel
theorem dX9_setCurtain_20 : decode cX9_setCurtain 20 = .ok (.aload_n 0, 1) := by decide +kernel
theorem dX9_setCurtain_21 : decode cX9_setCurtain 21 = .ok (.getfield 23, 3) := by decide +kernel
theorem dX9_setCurtain_24 : decode cX9_setCurtain 24 = .ok (.getfield 138, 3) := by decide +kernel
theorem dX9_setCurtain_27 : decode cX9_setCurtain 27 = .ok (.iload_n 1, 1) := by decide +kernel
theorem dX9_setCurtain_28 : decode cX9_setCurtain 28 = .ok (.invokestatic 141, 3) := by decide +kernel
theorem dX9_setCurtain_31 : decode cX9_setCurtain 31 = .ok (.ifCond .le 7, 3) := by decide +kernel
theorem dX9_setCurtain_34 : decode cX9_setCurtain 34 = .ok (.iconst 1, 1) := by decide +kernel
theorem dX9_setCurtain_35 : decode cX9_setCurtain 35 = .ok (.goto 4, 3) := by decide +kernel
theorem dX9_setCurtain_38 : decode cX9_setCurtain 38 = .ok (.iconst 0, 1) := by decide +kernel
theorem dX9_setCurtain_39 : decode cX9_setCurtain 39 = .ok (.istore_n 3, 1) := by decide +kernel
theorem dX9_setCurtain_40 : decode cX9_setCurtain 40 = .ok (.aload_n 0, 1) := by decide +kernel
theorem dX9_setCurtain_41 : decode cX9_setCurtain 41 = .ok (.getfield 23, 3) := by decide +kernel
theorem dX9_setCurtain_44 : decode cX9_setCurtain 44 = .ok (.getfield 138, 3) := by decide +kernel
theorem dX9_setCurtain_47 : decode cX9_setCurtain 47 = .ok (.iload_n 1, 1) := by decide +kernel
theorem dX9_setCurtain_48 : decode cX9_setCurtain 48 = .ok (.iload_n 2, 1) := by decide +kernel
theorem dX9_setCurtain_49 : decode cX9_setCurtain 49 = .ok (.ifCond .eq 7, 3) := by decide +kernel
theorem dX9_setCurtain_52 : decode cX9_setCurtain 52 = .ok (.iconst 1, 1) := by decide +kernel
theorem dX9_setCurtain_53 : decode cX9_setCurtain 53 = .ok (.goto 4, 3) := by decide +kernel
theorem dX9_setCurtain_56 : decode cX9_setCurtain 56 = .ok (.iconst 0, 1) := by decide +kernel
theorem dX9_setCurtain_57 : decode cX9_setCurtain 57 = .ok (.invokestatic 58, 3) := by decide +kernel
theorem dX9_setCurtain_60 : decode cX9_setCurtain 60 = .ok (.iload_n 3, 1) := by decide +kernel
theorem dX9_setCurtain_61 : decode cX9_setCurtain 61 = .ok (.ireturn, 1) := by decide +kernel
set_option maxRecDepth 20000 in
theorem ggX9_placeBowl_X9_requireSetup : GoodIn wsX9_placeBowl wsX9_requireSetup := goodIn_ca (goodIn_r _ [10, 11, 12, 13, 119, 120, 121, 122, 123, 124, 125, 126] (by decide +kernel) (by decide +kernel)) (goodIn_sub (fun _ h => List.mem_cons_of_mem _ (List.mem_append_left _ (List.mem_append_left _ (List.mem_append_right _ h)))) (by decide +kernel))
set_option maxRecDepth 20000 in
theorem gX9_placeBowl_X9_requireSetup : GoodIn wsX9_placeBowl (wsV RX9 94 RX9 yX9_requireSetup wsX9_requireSetup) := goodIn_app (goodIn_of _ (by decide +kernel)) ggX9_placeBowl_X9_requireSetup
set_option maxRecDepth 20000 in
theorem ggX9_placeBowl_X9_requireTile : GoodIn wsX9_placeBowl wsX9_requireTile := goodIn_ca (goodIn_r _ [17, 18, 19, 3, 20, 21, 22, 23, 24, 25, 26, 27, 119, 120, 121, 122, 123, 124, 125, 126, 127, 128, 129, 130, 131, 132, 133, 134, 135, 136, 137, 138, 139, 140, 141, 142, 143, 144, 145, 146, 147, 148, 149, 150, 151, 152, 153] (by decide +kernel) (by decide +kernel)) (goodIn_sub (fun _ h => List.mem_cons_of_mem _ (List.mem_append_left _ (List.mem_append_right _ h))) (by decide +kernel))
set_option maxRecDepth 20000 in
theorem gX9_placeBowl_X9_requireTile : GoodIn wsX9_placeBowl (wsV RX9 128 RX9 yX9_requireTile wsX9_requireTile) := goodIn_app (goodIn_of _ (by decide +kernel)) ggX9_placeBowl_X9_requireTile
set_option maxRecDepth 20000 in
theorem ggX9_placeBowl_X8_hasRoomForBowl : GoodIn wsX9_placeBowl wsX8_hasRoomForBowl := goodIn_ca (goodIn_r _ [31, 32, 33, 34, 9, 35, 127, 128, 129, 130, 131, 132, 133, 134, 135, 136, 137, 138, 139, 140] (by decide +kernel) (by decide +kernel)) (goodIn_sub (fun _ h => List.mem_cons_of_mem _ (List.mem_append_right _ h)) (by decide +kernel))
set_option maxRecDepth 20000 in
theorem gX9_placeBowl_X8_hasRoomForBowl : GoodIn wsX9_placeBowl (wsV RX9 280 RX8 yX8_hasRoomForBowl wsX8_hasRoomForBowl) := goodIn_app (goodIn_of _ (by decide +kernel)) ggX9_placeBowl_X8_hasRoomForBowl
set_option maxRecDepth 20000 in
theorem ggX9_placeBowl_X1_keep : GoodIn wsX9_placeBowl wsX1_keep := goodIn_r _ [40, 41, 42, 43, 44, 45, 46, 47, 48, 49, 39, 50, 51, 52, 53, 23, 54, 25, 55, 56, 57, 58, 33, 32, 59, 60, 61, 62, 63, 64, 65, 66, 67, 68, 69, 70, 71, 72, 73, 74, 75, 76, 77, 78, 79, 80, 81, 82, 83, 84, 9, 85, 86, 87, 88, 89, 90, 91, 92, 93, 94, 95, 96, 97, 98, 99, 100, 101, 102, 103, 104, 105, 106, 107, 108, 109, 110, 111, 112, 154, 155, 156, 157, 158, 127, 128, 129, 130, 131, 132, 133, 134, 135, 136, 137, 138, 139, 140, 141, 142, 143, 144, 145, 146, 147, 148, 149, 150, 151, 152, 153, 159, 160, 161, 162, 163, 164, 165, 166, 167, 168, 169, 170] (by decide +kernel) (by decide +kernel)
set_option maxRecDepth 20000 in
theorem gX9_placeBowl_X1_keep : GoodIn wsX9_placeBowl (wsV RX9 277 RX1 yX1_keep wsX1_keep) := goodIn_app (goodIn_of _ (by decide +kernel)) ggX9_placeBowl_X1_keep
set_option maxRecDepth 20000 in
theorem ggX9_placeBowl_X9_put : GoodIn wsX9_placeBowl wsX9_put := goodIn_ca (goodIn_r _ [115] (by decide +kernel) (by decide +kernel)) (goodIn_sub (fun _ h => List.mem_cons_of_mem _ (List.mem_append_right _ h)) (by decide +kernel))
set_option maxRecDepth 20000 in
theorem gX9_placeBowl_X9_put : GoodIn wsX9_placeBowl (va_wsS RX9 58 yX9_put wsX9_put) := goodIn_app (goodIn_of _ (by decide +kernel)) ggX9_placeBowl_X9_put
set_option maxRecDepth 20000 in
theorem ggX9_placeBowl_X9_countMarked : GoodIn wsX9_placeBowl wsX9_countMarked := goodIn_ca (goodIn_r _ [118] (by decide +kernel) (by decide +kernel)) (goodIn_sub (fun _ h => List.mem_cons_of_mem _ (List.mem_append_right _ h)) (by decide +kernel))
set_option maxRecDepth 20000 in
theorem gX9_placeBowl_X9_countMarked : GoodIn wsX9_placeBowl (va_wsS RX9 208 yX9_countMarked wsX9_countMarked) := goodIn_app (goodIn_of _ (by decide +kernel)) ggX9_placeBowl_X9_countMarked
theorem dX9_placeBowl_0 : decode cX9_placeBowl 0 = .ok (.aload_n 0, 1) := by decide +kernel
theorem dX9_placeBowl_1 : decode cX9_placeBowl 1 = .ok (.invokevirtual 94, 3) := by decide +kernel
theorem dX9_placeBowl_4 : decode cX9_placeBowl 4 = .ok (.aload_n 0, 1) := by decide +kernel
theorem dX9_placeBowl_5 : decode cX9_placeBowl 5 = .ok (.iload_n 1, 1) := by decide +kernel
theorem dX9_placeBowl_6 : decode cX9_placeBowl 6 = .ok (.invokevirtual 128, 3) := by decide +kernel
theorem dX9_placeBowl_9 : decode cX9_placeBowl 9 = .ok (.aload_n 0, 1) := by decide +kernel
theorem dX9_placeBowl_10 : decode cX9_placeBowl 10 = .ok (.getfield 23, 3) := by decide +kernel
theorem dX9_placeBowl_13 : decode cX9_placeBowl 13 = .ok (.iload_n 1, 1) := by decide +kernel
theorem dX9_placeBowl_14 : decode cX9_placeBowl 14 = .ok (.invokevirtual 280, 3) := by decide +kernel
theorem dX9_placeBowl_17 : decode cX9_placeBowl 17 = .ok (.ifCond .ne 14, 3) := by decide +kernel
theorem dX9_placeBowl_20 : decode cX9_placeBowl 20 = .ok (.new 73, 3) := by decide +kernel
theorem dX9_placeBowl_23 : decode cX9_placeBowl 23 = .ok (.dup, 1) := by decide +kernel
theorem dX9_placeBowl_24 : decode cX9_placeBowl 24 = .ok (.ldc_w 283, 3) := by decide +kernel
theorem dX9_placeBowl_27 : decode cX9_placeBowl 27 = .ok (.invokespecial 77, 3) := by decide +kernel
theorem dX9_placeBowl_30 : decode cX9_placeBowl 30 = .ok (.athrow, 1) := by decide +kernel
theorem dX9_placeBowl_31 : decode cX9_placeBowl 31 = .ok (.aload_n 0, 1) := by decide +kernel
theorem dX9_placeBowl_32 : decode cX9_placeBowl 32 = .ok (.getfield 42, 3) := by decide +kernel
theorem dX9_placeBowl_35 : decode cX9_placeBowl 35 = .ok (.aload_n 0, 1) := by decide +kernel
theorem dX9_placeBowl_36 : decode cX9_placeBowl 36 = .ok (.getfield 23, 3) := by decide +kernel
theorem dX9_placeBowl_39 : decode cX9_placeBowl 39 = .ok (.invokevirtual 277, 3) := by decide +kernel
theorem dX9_placeBowl_42 : decode cX9_placeBowl 42 = .ok (.aload_n 0, 1) := by decide +kernel
theorem dX9_placeBowl_43 : decode cX9_placeBowl 43 = .ok (.getfield 23, 3) := by decide +kernel
theorem dX9_placeBowl_46 : decode cX9_placeBowl 46 = .ok (.getfield 202, 3) := by decide +kernel
theorem dX9_placeBowl_49 : decode cX9_placeBowl 49 = .ok (.iload_n 1, 1) := by decide +kernel
theorem dX9_placeBowl_50 : decode cX9_placeBowl 50 = .ok (.iconst 1, 1) := by decide +kernel
theorem dX9_placeBowl_51 : decode cX9_placeBowl 51 = .ok (.invokestatic 58, 3) := by decide +kernel
theorem dX9_placeBowl_54 : decode cX9_placeBowl 54 = .ok (.aload_n 0, 1) := by decide +kernel
theorem dX9_placeBowl_55 : decode cX9_placeBowl 55 = .ok (.getfield 23, 3) := by decide +kernel
theorem dX9_placeBowl_58 : decode cX9_placeBowl 58 = .ok (.getfield 202, 3) := by decide +kernel
theorem dX9_placeBowl_61 : decode cX9_placeBowl 61 = .ok (.invokestatic 208, 3) := by decide +kernel
theorem dX9_placeBowl_64 : decode cX9_placeBowl 64 = .ok (.ireturn, 1) := by decide +kernel
set_option maxRecDepth 20000 in
theorem ggX9_mop_X9_requireSetup : GoodIn wsX9_mop wsX9_requireSetup := goodIn_ca (goodIn_r _ [10, 11, 12, 13, 113, 114, 115, 116, 117, 118, 119, 120] (by decide +kernel) (by decide +kernel)) (goodIn_sub (fun _ h => List.mem_cons_of_mem _ (List.mem_append_left _ (List.mem_append_left _ (List.mem_append_right _ h)))) (by decide +kernel))
set_option maxRecDepth 20000 in
theorem gX9_mop_X9_requireSetup : GoodIn wsX9_mop (wsV RX9 94 RX9 yX9_requireSetup wsX9_requireSetup) := goodIn_app (goodIn_of _ (by decide +kernel)) ggX9_mop_X9_requireSetup
set_option maxRecDepth 20000 in
theorem ggX9_mop_X9_requireTile : GoodIn wsX9_mop wsX9_requireTile := goodIn_ca (goodIn_r _ [17, 18, 19, 3, 20, 21, 22, 23, 24, 25, 26, 27, 113, 114, 115, 116, 117, 118, 119, 120, 121, 122, 123, 124, 125, 126, 127, 128, 129, 130, 131, 132, 133, 134, 135, 136, 137, 138, 139, 140, 141, 142, 143, 144, 145, 146, 147] (by decide +kernel) (by decide +kernel)) (goodIn_sub (fun _ h => List.mem_cons_of_mem _ (List.mem_append_left _ (List.mem_append_right _ h))) (by decide +kernel))
set_option maxRecDepth 20000 in
theorem gX9_mop_X9_requireTile : GoodIn wsX9_mop (wsV RX9 128 RX9 yX9_requireTile wsX9_requireTile) := goodIn_app (goodIn_of _ (by decide +kernel)) ggX9_mop_X9_requireTile
set_option maxRecDepth 20000 in
theorem ggX9_mop_X9_at : GoodIn wsX9_mop wsX9_at := goodIn_ca (goodIn_r _ [30] (by decide +kernel) (by decide +kernel)) (goodIn_sub (fun _ h => List.mem_cons_of_mem _ (List.mem_append_right _ h)) (by decide +kernel))
set_option maxRecDepth 20000 in
theorem gX9_mop_X9_at : GoodIn wsX9_mop (va_wsS RX9 141 yX9_at wsX9_at) := goodIn_app (goodIn_of _ (by decide +kernel)) ggX9_mop_X9_at
set_option maxRecDepth 20000 in
theorem ggX9_mop_X1_keep : GoodIn wsX9_mop wsX1_keep := goodIn_r _ [35, 36, 37, 38, 39, 40, 41, 42, 43, 44, 34, 45, 46, 47, 48, 23, 49, 25, 50, 51, 52, 53, 54, 55, 56, 57, 58, 59, 60, 61, 62, 63, 64, 65, 66, 67, 68, 69, 70, 71, 72, 73, 74, 75, 76, 77, 78, 79, 80, 81, 9, 82, 83, 84, 85, 86, 87, 88, 89, 90, 91, 92, 93, 94, 95, 96, 97, 98, 99, 100, 101, 102, 103, 104, 105, 106, 107, 108, 109, 148, 149, 150, 151, 152, 121, 122, 123, 124, 125, 126, 127, 128, 129, 130, 131, 132, 133, 134, 135, 136, 137, 138, 139, 140, 141, 142, 143, 144, 145, 146, 147, 153, 154, 155, 156, 157, 158, 159, 160, 161, 162, 163, 164] (by decide +kernel) (by decide +kernel)
set_option maxRecDepth 20000 in
theorem gX9_mop_X1_keep : GoodIn wsX9_mop (wsV RX9 277 RX1 yX1_keep wsX1_keep) := goodIn_app (goodIn_of _ (by decide +kernel)) ggX9_mop_X1_keep
set_option maxRecDepth 20000 in
theorem ggX9_mop_X9_put : GoodIn wsX9_mop wsX9_put := goodIn_ca (goodIn_r _ [112] (by decide +kernel) (by decide +kernel)) (goodIn_sub (fun _ h => List.mem_cons_of_mem _ (List.mem_append_right _ h)) (by decide +kernel))
set_option maxRecDepth 20000 in
theorem gX9_mop_X9_put : GoodIn wsX9_mop (va_wsS RX9 58 yX9_put wsX9_put) := goodIn_app (goodIn_of _ (by decide +kernel)) ggX9_mop_X9_put
theorem dX9_mop_0 : decode cX9_mop 0 = .ok (.aload_n 0, 1) := by decide +kernel
theorem dX9_mop_1 : decode cX9_mop 1 = .ok (.invokevirtual 94, 3) := by decide +kernel
theorem dX9_mop_4 : decode cX9_mop 4 = .ok (.aload_n 0, 1) := by decide +kernel
theorem dX9_mop_5 : decode cX9_mop 5 = .ok (.iload_n 1, 1) := by decide +kernel
theorem dX9_mop_6 : decode cX9_mop 6 = .ok (.invokevirtual 128, 3) := by decide +kernel
theorem dX9_mop_9 : decode cX9_mop 9 = .ok (.aload_n 0, 1) := by decide +kernel
theorem dX9_mop_10 : decode cX9_mop 10 = .ok (.getfield 23, 3) := by decide +kernel
theorem dX9_mop_13 : decode cX9_mop 13 = .ok (.getfield 205, 3) := by decide +kernel
theorem dX9_mop_16 : decode cX9_mop 16 = .ok (.iload_n 1, 1) := by decide +kernel
theorem dX9_mop_17 : decode cX9_mop 17 = .ok (.invokestatic 141, 3) := by decide +kernel
theorem dX9_mop_20 : decode cX9_mop 20 = .ok (.istore_n 2, 1) := by decide +kernel
theorem dX9_mop_21 : decode cX9_mop 21 = .ok (.iload_n 2, 1) := by decide +kernel
theorem dX9_mop_22 : decode cX9_mop 22 = .ok (.ifCond .ne 14, 3) := by decide +kernel
theorem dX9_mop_25 : decode cX9_mop 25 = .ok (.new 73, 3) := by decide +kernel
theorem dX9_mop_28 : decode cX9_mop 28 = .ok (.dup, 1) := by decide +kernel
theorem dX9_mop_29 : decode cX9_mop 29 = .ok (.ldc_w 285, 3) := by decide +kernel
theorem dX9_mop_32 : decode cX9_mop 32 = .ok (.invokespecial 77, 3) := by decide +kernel
theorem dX9_mop_35 : decode cX9_mop 35 = .ok (.athrow, 1) := by decide +kernel
theorem dX9_mop_36 : decode cX9_mop 36 = .ok (.aload_n 0, 1) := by decide +kernel
theorem dX9_mop_37 : decode cX9_mop 37 = .ok (.getfield 42, 3) := by decide +kernel
theorem dX9_mop_40 : decode cX9_mop 40 = .ok (.aload_n 0, 1) := by decide +kernel
theorem dX9_mop_41 : decode cX9_mop 41 = .ok (.getfield 23, 3) := by decide +kernel
theorem dX9_mop_44 : decode cX9_mop 44 = .ok (.invokevirtual 277, 3) := by decide +kernel
theorem dX9_mop_47 : decode cX9_mop 47 = .ok (.aload_n 0, 1) := by decide +kernel
theorem dX9_mop_48 : decode cX9_mop 48 = .ok (.getfield 23, 3) := by decide +kernel
theorem dX9_mop_51 : decode cX9_mop 51 = .ok (.getfield 205, 3) := by decide +kernel
theorem dX9_mop_54 : decode cX9_mop 54 = .ok (.iload_n 1, 1) := by decide +kernel
theorem dX9_mop_55 : decode cX9_mop 55 = .ok (.iconst 0, 1) := by decide +kernel
theorem dX9_mop_56 : decode cX9_mop 56 = .ok (.invokestatic 58, 3) := by decide +kernel
theorem dX9_mop_59 : decode cX9_mop 59 = .ok (.iload_n 2, 1) := by decide +kernel
theorem dX9_mop_60 : decode cX9_mop 60 = .ok (.ireturn, 1) := by decide +kernel
set_option maxRecDepth 20000 in
theorem ggX9_turnWalker_X9_requireSetup : GoodIn wsX9_turnWalker wsX9_requireSetup := goodIn_ca (goodIn_r _ [9, 10, 11, 12, 94, 95, 96, 97, 98, 99, 100, 101] (by decide +kernel) (by decide +kernel)) (goodIn_sub (fun _ h => List.mem_cons_of_mem _ (List.mem_append_right _ h)) (by decide +kernel))
set_option maxRecDepth 20000 in
theorem gX9_turnWalker_X9_requireSetup : GoodIn wsX9_turnWalker (wsV RX9 94 RX9 yX9_requireSetup wsX9_requireSetup) := goodIn_app (goodIn_of _ (by decide +kernel)) ggX9_turnWalker_X9_requireSetup
set_option maxRecDepth 20000 in
theorem ggX9_turnWalker_X1_keep : GoodIn wsX9_turnWalker wsX1_keep := goodIn_r _ [17, 18, 19, 20, 21, 22, 23, 24, 25, 26, 16, 27, 28, 29, 30, 31, 32, 33, 34, 35, 36, 37, 38, 39, 40, 41, 42, 43, 44, 45, 46, 47, 48, 49, 50, 51, 52, 53, 54, 55, 56, 57, 58, 59, 60, 61, 62, 63, 64, 65, 8, 66, 67, 68, 69, 70, 71, 72, 73, 74, 75, 76, 77, 78, 79, 80, 81, 82, 83, 84, 85, 86, 87, 88, 89, 90, 91, 92, 93, 125, 126, 127, 128, 129, 102, 103, 104, 105, 106, 107, 108, 109, 110, 111, 112, 113, 114, 115, 130, 131, 132, 133, 134, 135, 136, 137, 138, 139, 140, 141, 142, 116, 117, 118, 119, 120, 121, 122, 123, 124, 143, 144, 145] (by decide +kernel) (by decide +kernel)
set_option maxRecDepth 20000 in
theorem gX9_turnWalker_X1_keep : GoodIn wsX9_turnWalker (wsV RX9 277 RX1 yX1_keep wsX1_keep) := goodIn_app (goodIn_of _ (by decide +kernel)) ggX9_turnWalker_X1_keep
theorem dX9_turnWalker_0 : decode cX9_turnWalker 0 = .ok (.aload_n 0, 1) := by decide +kernel
theorem dX9_turnWalker_1 : decode cX9_turnWalker 1 = .ok (.invokevirtual 94, 3) := by decide +kernel
theorem dX9_turnWalker_4 : decode cX9_turnWalker 4 = .ok (.aload_n 0, 1) := by decide +kernel
theorem dX9_turnWalker_5 : decode cX9_turnWalker 5 = .ok (.getfield 42, 3) := by decide +kernel
theorem dX9_turnWalker_8 : decode cX9_turnWalker 8 = .ok (.aload_n 0, 1) := by decide +kernel
theorem dX9_turnWalker_9 : decode cX9_turnWalker 9 = .ok (.getfield 23, 3) := by decide +kernel
theorem dX9_turnWalker_12 : decode cX9_turnWalker 12 = .ok (.invokevirtual 277, 3) := by decide +kernel
theorem dX9_turnWalker_15 : decode cX9_turnWalker 15 = .ok (.aload_n 0, 1) := by decide +kernel
theorem dX9_turnWalker_16 : decode cX9_turnWalker 16 = .ok (.getfield 23, 3) := by decide +kernel
theorem dX9_turnWalker_19 : decode cX9_turnWalker 19 = .ok (.getfield 157, 3) := by decide +kernel
theorem dX9_turnWalker_22 : decode cX9_turnWalker 22 = .ok (.aload_n 0, 1) := by decide +kernel
theorem dX9_turnWalker_23 : decode cX9_turnWalker 23 = .ok (.getfield 23, 3) := by decide +kernel
theorem dX9_turnWalker_26 : decode cX9_turnWalker 26 = .ok (.getfield 157, 3) := by decide +kernel
theorem dX9_turnWalker_29 : decode cX9_turnWalker 29 = .ok (.getfield 166, 3) := by decide +kernel
theorem dX9_turnWalker_32 : decode cX9_turnWalker 32 = .ok (.ifCond .ne 7, 3) := by decide +kernel
theorem dX9_turnWalker_35 : decode cX9_turnWalker 35 = .ok (.iconst 1, 1) := by decide +kernel
theorem dX9_turnWalker_36 : decode cX9_turnWalker 36 = .ok (.goto 4, 3) := by decide +kernel
theorem dX9_turnWalker_39 : decode cX9_turnWalker 39 = .ok (.iconst 0, 1) := by decide +kernel
theorem dX9_turnWalker_40 : decode cX9_turnWalker 40 = .ok (.putfield 166, 3) := by decide +kernel
theorem dX9_turnWalker_43 : decode cX9_turnWalker 43 = .ok (.aload_n 0, 1) := by decide +kernel
theorem dX9_turnWalker_44 : decode cX9_turnWalker 44 = .ok (.getfield 23, 3) := by decide +kernel
theorem dX9_turnWalker_47 : decode cX9_turnWalker 47 = .ok (.getfield 157, 3) := by decide +kernel
theorem dX9_turnWalker_50 : decode cX9_turnWalker 50 = .ok (.getfield 166, 3) := by decide +kernel
theorem dX9_turnWalker_53 : decode cX9_turnWalker 53 = .ok (.ireturn, 1) := by decide +kernel
set_option maxRecDepth 20000 in
theorem ggX9_undo_X1_takeBack : GoodIn wsX9_undo wsX1_takeBack := goodIn_r _ [10, 11, 12, 13, 14, 15, 9, 16, 17, 18, 19, 20, 21, 22, 23, 24, 25, 26, 27, 28, 29, 30, 31, 32, 33, 34, 35, 36, 37, 38, 39, 40, 41, 42, 43, 44, 45, 46, 47, 48, 49, 50, 51, 52, 53, 54, 55, 56, 57, 58, 59, 60, 61, 62, 63, 64, 65, 66, 67, 68, 69, 70, 71, 72, 73, 74, 75, 76, 77, 78, 79, 80, 81, 82, 83, 84, 85, 86, 95, 96, 97, 98, 99, 100, 101, 102, 103, 104, 105, 106, 107, 108, 109, 110, 111, 112, 113, 114, 115, 116, 117, 118, 119, 120, 121, 122, 123, 124, 125, 126, 127, 128, 129, 130, 131, 132, 133, 134, 135, 136, 137, 138] (by decide +kernel) (by decide +kernel)
set_option maxRecDepth 20000 in
theorem gX9_undo_X1_takeBack : GoodIn wsX9_undo (wsV RX9 287 RX1 yX1_takeBack wsX1_takeBack) := goodIn_app (goodIn_of _ (by decide +kernel)) ggX9_undo_X1_takeBack
theorem dX9_undo_0 : decode cX9_undo 0 = .ok (.aload_n 0, 1) := by decide +kernel
theorem dX9_undo_1 : decode cX9_undo 1 = .ok (.getfield 42, 3) := by decide +kernel
theorem dX9_undo_4 : decode cX9_undo 4 = .ok (.aload_n 0, 1) := by decide +kernel
theorem dX9_undo_5 : decode cX9_undo 5 = .ok (.getfield 23, 3) := by decide +kernel
theorem dX9_undo_8 : decode cX9_undo 8 = .ok (.invokevirtual 287, 3) := by decide +kernel
theorem dX9_undo_11 : decode cX9_undo 11 = .ok (.ifCond .ne 14, 3) := by decide +kernel
theorem dX9_undo_14 : decode cX9_undo 14 = .ok (.new 291, 3) := by decide +kernel
theorem dX9_undo_17 : decode cX9_undo 17 = .ok (.dup, 1) := by decide +kernel
theorem dX9_undo_18 : decode cX9_undo 18 = .ok (.ldc_w 293, 3) := by decide +kernel
theorem dX9_undo_21 : decode cX9_undo 21 = .ok (.invokespecial 295, 3) := by decide +kernel
theorem dX9_undo_24 : decode cX9_undo 24 = .ok (.athrow, 1) := by decide +kernel
theorem dX9_undo_25 : decode cX9_undo 25 = .ok (.aload_n 0, 1) := by decide +kernel
theorem dX9_undo_26 : decode cX9_undo 26 = .ok (.getfield 42, 3) := by decide +kernel
theorem dX9_undo_29 : decode cX9_undo 29 = .ok (.getfield 296, 3) := by decide +kernel
theorem dX9_undo_32 : decode cX9_undo 32 = .ok (.ireturn, 1) := by decide +kernel
theorem dX9_undoCount_0 : decode cX9_undoCount 0 = .ok (.aload_n 0, 1) := by decide +kernel
theorem dX9_undoCount_1 : decode cX9_undoCount 1 = .ok (.getfield 42, 3) := by decide +kernel
theorem dX9_undoCount_4 : decode cX9_undoCount 4 = .ok (.getfield 296, 3) := by decide +kernel
theorem dX9_undoCount_7 : decode cX9_undoCount 7 = .ok (.ireturn, 1) := by decide +kernel
set_option maxRecDepth 20000 in
theorem ggX9_saveState_X9_requireSetup : GoodIn wsX9_saveState wsX9_requireSetup := goodIn_ca (goodIn_r _ [8, 9, 10, 11, 99, 100, 101, 102, 103, 104, 105, 106] (by decide +kernel) (by decide +kernel)) (goodIn_sub (fun _ h => List.mem_cons_of_mem _ (List.mem_append_left _ (List.mem_append_left _ (List.mem_append_right _ h)))) (by decide +kernel))
set_option maxRecDepth 20000 in
theorem gX9_saveState_X9_requireSetup : GoodIn wsX9_saveState (wsV RX9 94 RX9 yX9_requireSetup wsX9_requireSetup) := goodIn_app (goodIn_of _ (by decide +kernel)) ggX9_saveState_X9_requireSetup
set_option maxRecDepth 20000 in
theorem ggX9_saveState_X9_requireSlot : GoodIn wsX9_saveState wsX9_requireSlot := goodIn_ca (goodIn_r _ [15, 16, 17] (by decide +kernel) (by decide +kernel)) (goodIn_sub (fun _ h => List.mem_cons_of_mem _ (List.mem_append_left _ (List.mem_append_right _ h))) (by decide +kernel))
set_option maxRecDepth 20000 in
theorem gX9_saveState_X9_requireSlot : GoodIn wsX9_saveState (wsV RX9 297 RX9 yX9_requireSlot wsX9_requireSlot) := goodIn_app (goodIn_of _ (by decide +kernel)) ggX9_saveState_X9_requireSlot
set_option maxRecDepth 20000 in
theorem ggX9_saveState_X1_store : GoodIn wsX9_saveState wsX1_store := goodIn_ca (goodIn_r _ [22, 23, 24, 25, 26, 21, 27, 28, 29, 30, 31, 32, 33, 34, 35, 36, 37, 38, 39, 40, 41, 42, 43, 44, 45, 46, 47, 48, 49, 50, 51, 52, 53, 54, 55, 56, 57, 58, 59, 60, 61, 62, 63, 64, 65, 7, 66, 67, 68, 69, 70, 71, 72, 73, 74, 75, 76, 77, 78, 79, 80, 81, 82, 83, 84, 85, 86, 87, 88, 89, 90, 91, 92, 93, 94, 95, 96, 97, 98, 121, 122, 123, 124, 125, 107, 108, 109, 110, 111, 112, 113, 114, 115, 116, 117, 118, 119, 120, 126, 127, 128, 129, 130, 131, 132, 133, 134, 135, 136, 137, 138, 139, 140, 141, 142, 143, 144, 145, 146, 147, 148, 149, 150] (by decide +kernel) (by decide +kernel)) (goodIn_sub (fun _ h => List.mem_cons_of_mem _ (List.mem_append_right _ h)) (by decide +kernel))
set_option maxRecDepth 20000 in
theorem gX9_saveState_X1_store : GoodIn wsX9_saveState (wsV RX9 300 RX1 yX1_store wsX1_store) := goodIn_app (goodIn_of _ (by decide +kernel)) ggX9_saveState_X1_store
theorem dX9_saveState_0 : decode cX9_saveState 0 = .ok (.aload_n 0, 1) := by decide +kernel
theorem dX9_saveState_1 : decode cX9_saveState 1 = .ok (.invokevirtual 94, 3) := by decide +kernel
theorem dX9_saveState_4 : decode cX9_saveState 4 = .ok (.aload_n 0, 1) := by decide +kernel
theorem dX9_saveState_5 : decode cX9_saveState 5 = .ok (.iload_n 1, 1) := by decide +kernel
theorem dX9_saveState_6 : decode cX9_saveState 6 = .ok (.invokevirtual 297, 3) := by decide +kernel
theorem dX9_saveState_9 : decode cX9_saveState 9 = .ok (.aload_n 0, 1) := by decide +kernel
theorem dX9_saveState_10 : decode cX9_saveState 10 = .ok (.getfield 42, 3) := by decide +kernel
theorem dX9_saveState_13 : decode cX9_saveState 13 = .ok (.iload_n 1, 1) := by decide +kernel
theorem dX9_saveState_14 : decode cX9_saveState 14 = .ok (.aload_n 0, 1) := by decide +kernel
theorem dX9_saveState_15 : decode cX9_saveState 15 = .ok (.getfield 23, 3) := by decide +kernel
theorem dX9_saveState_18 : decode cX9_saveState 18 = .ok (.invokevirtual 300, 3) := by decide +kernel
theorem dX9_saveState_21 : decode cX9_saveState 21 = .ok (.aload_n 0, 1) := by decide +kernel
theorem dX9_saveState_22 : decode cX9_saveState 22 = .ok (.getfield 23, 3) := by decide +kernel
theorem dX9_saveState_25 : decode cX9_saveState 25 = .ok (.getfield 112, 3) := by decide +kernel
theorem dX9_saveState_28 : decode cX9_saveState 28 = .ok (.ireturn, 1) := by decide +kernel
set_option maxRecDepth 20000 in
theorem ggX9_restoreState_X9_requireSlot : GoodIn wsX9_restoreState wsX9_requireSlot := goodIn_ca (goodIn_r _ [10, 11, 12] (by decide +kernel) (by decide +kernel)) (goodIn_sub (fun _ h => List.mem_cons_of_mem _ (List.mem_append_left _ (List.mem_append_right _ h))) (by decide +kernel))
set_option maxRecDepth 20000 in
theorem gX9_restoreState_X9_requireSlot : GoodIn wsX9_restoreState (wsV RX9 297 RX9 yX9_requireSlot wsX9_requireSlot) := goodIn_app (goodIn_of _ (by decide +kernel)) ggX9_restoreState_X9_requireSlot
set_option maxRecDepth 20000 in
theorem ggX9_restoreState_X1_fetch : GoodIn wsX9_restoreState wsX1_fetch := goodIn_ca (goodIn_r _ [17, 18, 19, 20, 21, 16, 22, 23, 9, 24, 25, 26, 27, 28, 29, 30, 31, 32, 33, 34, 35, 36, 37, 38, 39, 40, 41, 42, 43, 44, 45, 46, 47, 48, 49, 50, 51, 52, 53, 54, 55, 56, 57, 58, 59, 60, 61, 62, 63, 64, 65, 66, 67, 68, 69, 70, 71, 72, 73, 74, 75, 76, 77, 78, 79, 80, 81, 82, 83, 84, 85, 86, 87, 88, 89, 90, 91, 92, 93, 121, 122, 123, 124, 125, 107, 108, 109, 110, 111, 112, 113, 114, 115, 116, 117, 118, 119, 120, 126, 127, 128, 129, 130, 131, 132, 133, 134, 135, 136, 137, 138, 139, 140, 141, 142, 143, 144, 145, 146, 147, 148, 149, 150] (by decide +kernel) (by decide +kernel)) (goodIn_sub (fun _ h => List.mem_cons_of_mem _ (List.mem_append_right _ h)) (by decide +kernel))
set_option maxRecDepth 20000 in
theorem gX9_restoreState_X1_fetch : GoodIn wsX9_restoreState (wsV RX9 304 RX1 yX1_fetch wsX1_fetch) := goodIn_app (goodIn_of _ (by decide +kernel)) ggX9_restoreState_X1_fetch
set_option maxRecDepth 20000 in
theorem ggX9_restoreState_X1_forgetChanges : GoodIn wsX9_restoreState wsX1_forgetChanges := goodIn_r _ [97, 98, 121, 122, 123, 124, 125] (by decide +kernel) (by decide +kernel)
set_option maxRecDepth 20000 in
theorem gX9_restoreState_X1_forgetChanges : GoodIn wsX9_restoreState (wsV RX9 310 RX1 yX1_forgetChanges wsX1_forgetChanges) := goodIn_app (goodIn_of _ (by decide +kernel)) ggX9_restoreState_X1_forgetChanges
theorem dX9_restoreState_0 : decode cX9_restoreState 0 = .ok (.aload_n 0, 1) := by decide +kernel
theorem dX9_restoreState_1 : decode cX9_restoreState 1 = .ok (.iload_n 1, 1) := by decide +kernel
theorem dX9_restoreState_2 : decode cX9_restoreState 2 = .ok (.invokevirtual 297, 3) := by decide +kernel
theorem dX9_restoreState_5 : decode cX9_restoreState 5 = .ok (.aload_n 0, 1) := by decide +kernel
theorem dX9_restoreState_6 : decode cX9_restoreState 6 = .ok (.getfield 42, 3) := by decide +kernel
theorem dX9_restoreState_9 : decode cX9_restoreState 9 = .ok (.iload_n 1, 1) := by decide +kernel
theorem dX9_restoreState_10 : decode cX9_restoreState 10 = .ok (.aload_n 0, 1) := by decide +kernel
theorem dX9_restoreState_11 : decode cX9_restoreState 11 = .ok (.getfield 23, 3) := by decide +kernel
theorem dX9_restoreState_14 : decode cX9_restoreState 14 = .ok (.invokevirtual 304, 3) := by decide +kernel
theorem dX9_restoreState_17 : decode cX9_restoreState 17 = .ok (.ifCond .ne 14, 3) := by decide +kernel
theorem dX9_restoreState_20 : decode cX9_restoreState 20 = .ok (.new 291, 3) := by decide +kernel
theorem dX9_restoreState_23 : decode cX9_restoreState 23 = .ok (.dup, 1) := by decide +kernel
theorem dX9_restoreState_24 : decode cX9_restoreState 24 = .ok (.ldc_w 308, 3) := by decide +kernel
theorem dX9_restoreState_27 : decode cX9_restoreState 27 = .ok (.invokespecial 295, 3) := by decide +kernel
theorem dX9_restoreState_30 : decode cX9_restoreState 30 = .ok (.athrow, 1) := by decide +kernel
theorem dX9_restoreState_31 : decode cX9_restoreState 31 = .ok (.aload_n 0, 1) := by decide +kernel
theorem dX9_restoreState_32 : decode cX9_restoreState 32 = .ok (.getfield 42, 3) := by decide +kernel
theorem dX9_restoreState_35 : decode cX9_restoreState 35 = .ok (.invokevirtual 310, 3) := by decide +kernel
theorem dX9_restoreState_38 : decode cX9_restoreState 38 = .ok (.aload_n 0, 1) := by decide +kernel
theorem dX9_restoreState_39 : decode cX9_restoreState 39 = .ok (.getfield 23, 3) := by decide +kernel
theorem dX9_restoreState_42 : decode cX9_restoreState 42 = .ok (.getfield 112, 3) := by decide +kernel
theorem dX9_restoreState_45 : decode cX9_restoreState 45 = .ok (.ireturn, 1) := by decide +kernel
theorem dX9_requireSetup_0 : decode cX9_requireSetup 0 = .ok (.aload_n 0, 1) := by decide +kernel
theorem dX9_requireSetup_1 : decode cX9_requireSetup 1 = .ok (.getfield 50, 3) := by decide +kernel
theorem dX9_requireSetup_4 : decode cX9_requireSetup 4 = .ok (.ifCond .ne 14, 3) := by decide +kernel
theorem dX9_requireSetup_7 : decode cX9_requireSetup 7 = .ok (.new 291, 3) := by decide +kernel
theorem dX9_requireSetup_10 : decode cX9_requireSetup 10 = .ok (.dup, 1) := by decide +kernel
theorem dX9_requireSetup_11 : decode cX9_requireSetup 11 = .ok (.ldc_w 313, 3) := by decide +kernel
theorem dX9_requireSetup_14 : decode cX9_requireSetup 14 = .ok (.invokespecial 295, 3) := by decide +kernel
theorem dX9_requireSetup_17 : decode cX9_requireSetup 17 = .ok (.athrow, 1) := by decide +kernel
theorem dX9_requireSetup_18 : decode cX9_requireSetup 18 = .ok (.return_, 1) := by decide +kernel
set_option maxRecDepth 20000 in
theorem ggX9_requireTile_X8_tileCount : GoodIn wsX9_requireTile wsX8_tileCount := goodIn_r _ [8, 9, 10, 11, 20, 21, 22, 23, 24, 25, 26, 27, 28, 29, 30, 31, 32, 33, 34, 35, 36, 37, 38, 39, 40, 41, 42, 43, 44, 45, 46] (by decide +kernel) (by decide +kernel)
set_option maxRecDepth 20000 in
theorem gX9_requireTile_X8_tileCount : GoodIn wsX9_requireTile (wsV RX9 84 RX8 yX8_tileCount wsX8_tileCount) := goodIn_app (goodIn_of _ (by decide +kernel)) ggX9_requireTile_X8_tileCount
theorem dX9_requireTile_0 : decode cX9_requireTile 0 = .ok (.iload_n 1, 1) := by decide +kernel
theorem dX9_requireTile_1 : decode cX9_requireTile 1 = .ok (.ifCond .lt 14, 3) := by decide +kernel
theorem dX9_requireTile_4 : decode cX9_requireTile 4 = .ok (.iload_n 1, 1) := by decide +kernel
theorem dX9_requireTile_5 : decode cX9_requireTile 5 = .ok (.aload_n 0, 1) := by decide +kernel
theorem dX9_requireTile_6 : decode cX9_requireTile 6 = .ok (.getfield 23, 3) := by decide +kernel
theorem dX9_requireTile_9 : decode cX9_requireTile 9 = .ok (.invokevirtual 84, 3) := by decide +kernel
theorem dX9_requireTile_12 : decode cX9_requireTile 12 = .ok (.if_icmp .lt 14, 3) := by decide +kernel
theorem dX9_requireTile_15 : decode cX9_requireTile 15 = .ok (.new 62, 3) := by decide +kernel
theorem dX9_requireTile_18 : decode cX9_requireTile 18 = .ok (.dup, 1) := by decide +kernel
theorem dX9_requireTile_19 : decode cX9_requireTile 19 = .ok (.ldc_w 315, 3) := by decide +kernel
theorem dX9_requireTile_22 : decode cX9_requireTile 22 = .ok (.invokespecial 66, 3) := by decide +kernel
theorem dX9_requireTile_25 : decode cX9_requireTile 25 = .ok (.athrow, 1) := by decide +kernel
theorem dX9_requireTile_26 : decode cX9_requireTile 26 = .ok (.return_, 1) := by decide +kernel
theorem dX9_requireColumn_0 : decode cX9_requireColumn 0 = .ok (.iload_n 1, 1) := by decide +kernel
theorem dX9_requireColumn_1 : decode cX9_requireColumn 1 = .ok (.ifCond .lt 17, 3) := by decide +kernel
theorem dX9_requireColumn_4 : decode cX9_requireColumn 4 = .ok (.iload_n 1, 1) := by decide +kernel
theorem dX9_requireColumn_5 : decode cX9_requireColumn 5 = .ok (.aload_n 0, 1) := by decide +kernel
theorem dX9_requireColumn_6 : decode cX9_requireColumn 6 = .ok (.getfield 23, 3) := by decide +kernel
theorem dX9_requireColumn_9 : decode cX9_requireColumn 9 = .ok (.getfield 97, 3) := by decide +kernel
theorem dX9_requireColumn_12 : decode cX9_requireColumn 12 = .ok (.getfield 106, 3) := by decide +kernel
theorem dX9_requireColumn_15 : decode cX9_requireColumn 15 = .ok (.if_icmp .lt 14, 3) := by decide +kernel
theorem dX9_requireColumn_18 : decode cX9_requireColumn 18 = .ok (.new 62, 3) := by decide +kernel
theorem dX9_requireColumn_21 : decode cX9_requireColumn 21 = .ok (.dup, 1) := by decide +kernel
theorem dX9_requireColumn_22 : decode cX9_requireColumn 22 = .ok (.ldc_w 317, 3) := by decide +kernel
theorem dX9_requireColumn_25 : decode cX9_requireColumn 25 = .ok (.invokespecial 66, 3) := by decide +kernel
theorem dX9_requireColumn_28 : decode cX9_requireColumn 28 = .ok (.athrow, 1) := by decide +kernel
theorem dX9_requireColumn_29 : decode cX9_requireColumn 29 = .ok (.return_, 1) := by decide +kernel
theorem dX9_requireRecord_0 : decode cX9_requireRecord 0 = .ok (.iload_n 1, 1) := by decide +kernel
theorem dX9_requireRecord_1 : decode cX9_requireRecord 1 = .ok (.ifCond .lt 17, 3) := by decide +kernel
theorem dX9_requireRecord_4 : decode cX9_requireRecord 4 = .ok (.iload_n 1, 1) := by decide +kernel
theorem dX9_requireRecord_5 : decode cX9_requireRecord 5 = .ok (.aload_n 0, 1) := by decide +kernel
theorem dX9_requireRecord_6 : decode cX9_requireRecord 6 = .ok (.getfield 23, 3) := by decide +kernel
theorem dX9_requireRecord_9 : decode cX9_requireRecord 9 = .ok (.getfield 212, 3) := by decide +kernel
theorem dX9_requireRecord_12 : decode cX9_requireRecord 12 = .ok (.getfield 216, 3) := by decide +kernel
theorem dX9_requireRecord_15 : decode cX9_requireRecord 15 = .ok (.if_icmp .lt 14, 3) := by decide +kernel
theorem dX9_requireRecord_18 : decode cX9_requireRecord 18 = .ok (.new 62, 3) := by decide +kernel
theorem dX9_requireRecord_21 : decode cX9_requireRecord 21 = .ok (.dup, 1) := by decide +kernel
theorem dX9_requireRecord_22 : decode cX9_requireRecord 22 = .ok (.ldc_w 319, 3) := by decide +kernel
theorem dX9_requireRecord_25 : decode cX9_requireRecord 25 = .ok (.invokespecial 66, 3) := by decide +kernel
theorem dX9_requireRecord_28 : decode cX9_requireRecord 28 = .ok (.athrow, 1) := by decide +kernel
theorem dX9_requireRecord_29 : decode cX9_requireRecord 29 = .ok (.return_, 1) := by decide +kernel
theorem dX9_requireSlot_0 : decode cX9_requireSlot 0 = .ok (.iload_n 1, 1) := by decide +kernel
theorem dX9_requireSlot_1 : decode cX9_requireSlot 1 = .ok (.ifCond .lt 8, 3) := by decide +kernel
theorem dX9_requireSlot_4 : decode cX9_requireSlot 4 = .ok (.iload_n 1, 1) := by decide +kernel
theorem dX9_requireSlot_5 : decode cX9_requireSlot 5 = .ok (.iconst 2, 1) := by decide +kernel
theorem dX9_requireSlot_6 : decode cX9_requireSlot 6 = .ok (.if_icmp .lt 14, 3) := by decide +kernel
theorem dX9_requireSlot_9 : decode cX9_requireSlot 9 = .ok (.new 62, 3) := by decide +kernel
theorem dX9_requireSlot_12 : decode cX9_requireSlot 12 = .ok (.dup, 1) := by decide +kernel
theorem dX9_requireSlot_13 : decode cX9_requireSlot 13 = .ok (.ldc_w 321, 3) := by decide +kernel
theorem dX9_requireSlot_16 : decode cX9_requireSlot 16 = .ok (.invokespecial 66, 3) := by decide +kernel
theorem dX9_requireSlot_19 : decode cX9_requireSlot 19 = .ok (.athrow, 1) := by decide +kernel
theorem dX9_requireSlot_20 : decode cX9_requireSlot 20 = .ok (.return_, 1) := by decide +kernel
theorem dX9_requireForetellable_0 : decode cX9_requireForetellable 0 = .ok (.iload_n 1, 1) := by decide +kernel
theorem dX9_requireForetellable_1 : decode cX9_requireForetellable 1 = .ok (.ifCond .lt 10, 3) := by decide +kernel
theorem dX9_requireForetellable_4 : decode cX9_requireForetellable 4 = .ok (.iload_n 1, 1) := by decide +kernel
theorem dX9_requireForetellable_5 : decode cX9_requireForetellable 5 = .ok (.sipush 300, 3) := by decide +kernel
theorem dX9_requireForetellable_8 : decode cX9_requireForetellable 8 = .ok (.if_icmp .le 14, 3) := by decide +kernel
theorem dX9_requireForetellable_11 : decode cX9_requireForetellable 11 = .ok (.new 73, 3) := by decide +kernel
theorem dX9_requireForetellable_14 : decode cX9_requireForetellable 14 = .ok (.dup, 1) := by decide +kernel
theorem dX9_requireForetellable_15 : decode cX9_requireForetellable 15 = .ok (.ldc_w 323, 3) := by decide +kernel
theorem dX9_requireForetellable_18 : decode cX9_requireForetellable 18 = .ok (.invokespecial 77, 3) := by decide +kernel
theorem dX9_requireForetellable_21 : decode cX9_requireForetellable 21 = .ok (.athrow, 1) := by decide +kernel
theorem dX9_requireForetellable_22 : decode cX9_requireForetellable 22 = .ok (.return_, 1) := by decide +kernel
theorem dX9_requirePace_0 : decode cX9_requirePace 0 = .ok (.iload_n 1, 1) := by decide +kernel
theorem dX9_requirePace_1 : decode cX9_requirePace 1 = .ok (.iconst 1, 1) := by decide +kernel
theorem dX9_requirePace_2 : decode cX9_requirePace 2 = .ok (.if_icmp .lt 8, 3) := by decide +kernel
theorem dX9_requirePace_5 : decode cX9_requirePace 5 = .ok (.iload_n 1, 1) := by decide +kernel
theorem dX9_requirePace_6 : decode cX9_requirePace 6 = .ok (.iconst 5, 1) := by decide +kernel
theorem dX9_requirePace_7 : decode cX9_requirePace 7 = .ok (.if_icmp .le 14, 3) := by decide +kernel
theorem dX9_requirePace_10 : decode cX9_requirePace 10 = .ok (.new 73, 3) := by decide +kernel
theorem dX9_requirePace_13 : decode cX9_requirePace 13 = .ok (.dup, 1) := by decide +kernel
theorem dX9_requirePace_14 : decode cX9_requirePace 14 = .ok (.ldc_w 325, 3) := by decide +kernel
theorem dX9_requirePace_17 : decode cX9_requirePace 17 = .ok (.invokespecial 77, 3) := by decide +kernel
theorem dX9_requirePace_20 : decode cX9_requirePace 20 = .ok (.athrow, 1) := by decide +kernel
theorem dX9_requirePace_21 : decode cX9_requirePace 21 = .ok (.return_, 1) := by decide +kernel
theorem dX9_at_0 : decode cX9_at 0 = .ok (.iload_n 1, 1) := by decide +kernel
theorem dX9_at_1 : decode cX9_at 1 = .ok (.ifCond .lt 15, 3) := by decide +kernel
theorem dX9_at_4 : decode cX9_at 4 = .ok (.iload_n 1, 1) := by decide +kernel
theorem dX9_at_5 : decode cX9_at 5 = .ok (.aload_n 0, 1) := by decide +kernel
theorem dX9_at_6 : decode cX9_at 6 = .ok (.arraylength, 1) := by decide +kernel
theorem dX9_at_7 : decode cX9_at 7 = .ok (.if_icmp .ge 9, 3) := by decide +kernel
theorem dX9_at_10 : decode cX9_at 10 = .ok (.aload_n 0, 1) := by decide +kernel
theorem dX9_at_11 : decode cX9_at 11 = .ok (.iload_n 1, 1) := by decide +kernel
theorem dX9_at_12 : decode cX9_at 12 = .ok (.iaload, 1) := by decide +kernel
theorem dX9_at_13 : decode cX9_at 13 = .ok (.goto 4, 3) := by decide +kernel
theorem dX9_at_16 : decode cX9_at 16 = .ok (.iconst 0, 1) := by decide +kernel
theorem dX9_at_17 : decode cX9_at 17 = .ok (.ireturn, 1) := by decide +kernel
theorem dX9_put_0 : decode cX9_put 0 = .ok (.iload_n 1, 1) := by decide +kernel
theorem dX9_put_1 : decode cX9_put 1 = .ok (.ifCond .lt 13, 3) := by decide +kernel
theorem dX9_put_4 : decode cX9_put 4 = .ok (.iload_n 1, 1) := by decide +kernel
theorem dX9_put_5 : decode cX9_put 5 = .ok (.aload_n 0, 1) := by decide +kernel
theorem dX9_put_6 : decode cX9_put 6 = .ok (.arraylength, 1) := by decide +kernel
theorem dX9_put_7 : decode cX9_put 7 = .ok (.if_icmp .ge 7, 3) := by decide +kernel
theorem dX9_put_10 : decode cX9_put 10 = .ok (.aload_n 0, 1) := by decide +kernel
theorem dX9_put_11 : decode cX9_put 11 = .ok (.iload_n 1, 1) := by decide +kernel
theorem dX9_put_12 : decode cX9_put 12 = .ok (.iload_n 2, 1) := by decide +kernel
theorem dX9_put_13 : decode cX9_put 13 = .ok (.iastore, 1) := by decide +kernel
theorem dX9_put_14 : decode cX9_put 14 = .ok (.return_, 1) := by decide +kernel
theorem dX9_copy_0 : decode cX9_copy 0 = .ok (.aload_n 0, 1) := by decide +kernel
theorem dX9_copy_1 : decode cX9_copy 1 = .ok (.iconst 0, 1) := by decide +kernel
theorem dX9_copy_2 : decode cX9_copy 2 = .ok (.aload_n 1, 1) := by decide +kernel
theorem dX9_copy_3 : decode cX9_copy 3 = .ok (.iconst 0, 1) := by decide +kernel
theorem dX9_copy_4 : decode cX9_copy 4 = .ok (.aload_n 0, 1) := by decide +kernel
theorem dX9_copy_5 : decode cX9_copy 5 = .ok (.arraylength, 1) := by decide +kernel
theorem dX9_copy_6 : decode cX9_copy 6 = .ok (.aload_n 1, 1) := by decide +kernel
theorem dX9_copy_7 : decode cX9_copy 7 = .ok (.arraylength, 1) := by decide +kernel
theorem dX9_copy_8 : decode cX9_copy 8 = .ok (.invokestatic 327, 3) := by decide +kernel
theorem dX9_copy_11 : decode cX9_copy 11 = .ok (.invokestatic 332, 3) := by decide +kernel
theorem dX9_copy_14 : decode cX9_copy 14 = .ok (.return_, 1) := by decide +kernel
theorem dX9_sum_0 : decode cX9_sum 0 = .ok (.iconst 0, 1) := by decide +kernel
theorem dX9_sum_1 : decode cX9_sum 1 = .ok (.istore_n 1, 1) := by decide +kernel
theorem dX9_sum_2 : decode cX9_sum 2 = .ok (.aload_n 0, 1) := by decide +kernel
theorem dX9_sum_3 : decode cX9_sum 3 = .ok (.astore_n 2, 1) := by decide +kernel
theorem dX9_sum_4 : decode cX9_sum 4 = .ok (.aload_n 2, 1) := by decide +kernel
theorem dX9_sum_5 : decode cX9_sum 5 = .ok (.arraylength, 1) := by decide +kernel
theorem dX9_sum_6 : decode cX9_sum 6 = .ok (.istore_n 3, 1) := by decide +kernel
theorem dX9_sum_7 : decode cX9_sum 7 = .ok (.iconst 0, 1) := by decide +kernel
theorem dX9_sum_8 : decode cX9_sum 8 = .ok (.istore 4, 2) := by decide +kernel
theorem dX9_sum_10 : decode cX9_sum 10 = .ok (.iload 4, 2) := by decide +kernel
theorem dX9_sum_12 : decode cX9_sum 12 = .ok (.iload_n 3, 1) := by decide +kernel
theorem dX9_sum_13 : decode cX9_sum 13 = .ok (.if_icmp .ge 20, 3) := by decide +kernel
theorem dX9_sum_16 : decode cX9_sum 16 = .ok (.aload_n 2, 1) := by decide +kernel
theorem dX9_sum_17 : decode cX9_sum 17 = .ok (.iload 4, 2) := by decide +kernel
theorem dX9_sum_19 : decode cX9_sum 19 = .ok (.iaload, 1) := by decide +kernel
theorem dX9_sum_20 : decode cX9_sum 20 = .ok (.istore 5, 2) := by decide +kernel
theorem dX9_sum_22 : decode cX9_sum 22 = .ok (.iload_n 1, 1) := by decide +kernel
theorem dX9_sum_23 : decode cX9_sum 23 = .ok (.iload 5, 2) := by decide +kernel
theorem dX9_sum_25 : decode cX9_sum 25 = .ok (.iadd, 1) := by decide +kernel
theorem dX9_sum_26 : decode cX9_sum 26 = .ok (.istore_n 1, 1) := by decide +kernel
theorem dX9_sum_27 : decode cX9_sum 27 = .ok (.iinc 4 1, 3) := by decide +kernel
theorem dX9_sum_30 : decode cX9_sum 30 = .ok (.goto (-20), 3) := by decide +kernel
theorem dX9_sum_33 : decode cX9_sum 33 = .ok (.iload_n 1, 1) := by decide +kernel
theorem dX9_sum_34 : decode cX9_sum 34 = .ok (.ireturn, 1) := by decide +kernel
theorem dX9_countMarked_0 : decode cX9_countMarked 0 = .ok (.iconst 0, 1) := by decide +kernel
theorem dX9_countMarked_1 : decode cX9_countMarked 1 = .ok (.istore_n 1, 1) := by decide +kernel
theorem dX9_countMarked_2 : decode cX9_countMarked 2 = .ok (.aload_n 0, 1) := by decide +kernel
theorem dX9_countMarked_3 : decode cX9_countMarked 3 = .ok (.astore_n 2, 1) := by decide +kernel
theorem dX9_countMarked_4 : decode cX9_countMarked 4 = .ok (.aload_n 2, 1) := by decide +kernel
theorem dX9_countMarked_5 : decode cX9_countMarked 5 = .ok (.arraylength, 1) := by decide +kernel
theorem dX9_countMarked_6 : decode cX9_countMarked 6 = .ok (.istore_n 3, 1) := by decide +kernel
theorem dX9_countMarked_7 : decode cX9_countMarked 7 = .ok (.iconst 0, 1) := by decide +kernel
theorem dX9_countMarked_8 : decode cX9_countMarked 8 = .ok (.istore 4, 2) := by decide +kernel
theorem dX9_countMarked_10 : decode cX9_countMarked 10 = .ok (.iload 4, 2) := by decide +kernel
theorem dX9_countMarked_12 : decode cX9_countMarked 12 = .ok (.iload_n 3, 1) := by decide +kernel
theorem dX9_countMarked_13 : decode cX9_countMarked 13 = .ok (.if_icmp .ge 23, 3) := by decide +kernel
theorem dX9_countMarked_16 : decode cX9_countMarked 16 = .ok (.aload_n 2, 1) := by decide +kernel
theorem dX9_countMarked_17 : decode cX9_countMarked 17 = .ok (.iload 4, 2) := by decide +kernel
theorem dX9_countMarked_19 : decode cX9_countMarked 19 = .ok (.iaload, 1) := by decide +kernel
theorem dX9_countMarked_20 : decode cX9_countMarked 20 = .ok (.istore 5, 2) := by decide +kernel
theorem dX9_countMarked_22 : decode cX9_countMarked 22 = .ok (.iload 5, 2) := by decide +kernel
theorem dX9_countMarked_24 : decode cX9_countMarked 24 = .ok (.ifCond .le 6, 3) := by decide +kernel
theorem dX9_countMarked_27 : decode cX9_countMarked 27 = .ok (.iinc 1 1, 3) := by decide +kernel
theorem dX9_countMarked_30 : decode cX9_countMarked 30 = .ok (.iinc 4 1, 3) := by decide +kernel
theorem dX9_countMarked_33 : decode cX9_countMarked 33 = .ok (.goto (-23), 3) := by decide +kernel
theorem dX9_countMarked_36 : decode cX9_countMarked 36 = .ok (.iload_n 1, 1) := by decide +kernel
theorem dX9_countMarked_37 : decode cX9_countMarked 37 = .ok (.ireturn, 1) := by decide +kernel
theorem dX10_init_0 : decode cX10_init 0 = .ok (.aload_n 0, 1) := by decide +kernel
theorem dX10_init_1 : decode cX10_init 1 = .ok (.invokespecial 1, 3) := by decide +kernel
theorem dX10_init_4 : decode cX10_init 4 = .ok (.aload_n 0, 1) := by decide +kernel
theorem dX10_init_5 : decode cX10_init 5 = .ok (.sipush 424, 3) := by decide +kernel
theorem dX10_init_8 : decode cX10_init 8 = .ok (.newarray .int, 2) := by decide +kernel
theorem dX10_init_10 : decode cX10_init 10 = .ok (.putfield 9, 3) := by decide +kernel
theorem dX10_init_13 : decode cX10_init 13 = .ok (.aload_n 0, 1) := by decide +kernel
theorem dX10_init_14 : decode cX10_init 14 = .ok (.sipush 424, 3) := by decide +kernel
theorem dX10_init_17 : decode cX10_init 17 = .ok (.newarray .int, 2) := by decide +kernel
theorem dX10_init_19 : decode cX10_init 19 = .ok (.putfield 13, 3) := by decide +kernel
theorem dX10_init_22 : decode cX10_init 22 = .ok (.aload_n 0, 1) := by decide +kernel
theorem dX10_init_23 : decode cX10_init 23 = .ok (.sipush 3392, 3) := by decide +kernel
theorem dX10_init_26 : decode cX10_init 26 = .ok (.newarray .int, 2) := by decide +kernel
theorem dX10_init_28 : decode cX10_init 28 = .ok (.putfield 16, 3) := by decide +kernel
theorem dX10_init_31 : decode cX10_init 31 = .ok (.aload_n 0, 1) := by decide +kernel
theorem dX10_init_32 : decode cX10_init 32 = .ok (.sipush 848, 3) := by decide +kernel
theorem dX10_init_35 : decode cX10_init 35 = .ok (.newarray .int, 2) := by decide +kernel
theorem dX10_init_37 : decode cX10_init 37 = .ok (.putfield 19, 3) := by decide +kernel
theorem dX10_init_40 : decode cX10_init 40 = .ok (.aload_n 0, 1) := by decide +kernel
theorem dX10_init_41 : decode cX10_init 41 = .ok (.iconst 2, 1) := by decide +kernel
theorem dX10_init_42 : decode cX10_init 42 = .ok (.newarray .boolean, 2) := by decide +kernel
theorem dX10_init_44 : decode cX10_init 44 = .ok (.putfield 22, 3) := by decide +kernel
theorem dX10_init_47 : decode cX10_init 47 = .ok (.aload_n 0, 1) := by decide +kernel
theorem dX10_init_48 : decode cX10_init 48 = .ok (.sipush 500, 3) := by decide +kernel
theorem dX10_init_51 : decode cX10_init 51 = .ok (.newarray .byte, 2) := by decide +kernel
theorem dX10_init_53 : decode cX10_init 53 = .ok (.putfield 26, 3) := by decide +kernel
theorem dX10_init_56 : decode cX10_init 56 = .ok (.aload_n 0, 1) := by decide +kernel
theorem dX10_init_57 : decode cX10_init 57 = .ok (.iconst (-1), 1) := by decide +kernel
theorem dX10_init_58 : decode cX10_init 58 = .ok (.putfield 30, 3) := by decide +kernel
theorem dX10_init_61 : decode cX10_init 61 = .ok (.aload_n 0, 1) := by decide +kernel
theorem dX10_init_62 : decode cX10_init 62 = .ok (.sipush 200, 3) := by decide +kernel
theorem dX10_init_65 : decode cX10_init 65 = .ok (.newarray .byte, 2) := by decide +kernel
theorem dX10_init_67 : decode cX10_init 67 = .ok (.putfield 34, 3) := by decide +kernel
theorem dX10_init_70 : decode cX10_init 70 = .ok (.return_, 1) := by decide +kernel
theorem dX10_thrown_0 : decode cX10_thrown 0 = .ok (.aload_n 0, 1) := by decide +kernel
theorem dX10_thrown_1 : decode cX10_thrown 1 = .ok (.getfield 37, 3) := by decide +kernel
theorem dX10_thrown_4 : decode cX10_thrown 4 = .ok (.ireturn, 1) := by decide +kernel
theorem dX10_in_0 : decode cX10_in 0 = .ok (.iload_n 1, 1) := by decide +kernel
theorem dX10_in_1 : decode cX10_in 1 = .ok (.iload_n 0, 1) := by decide +kernel
theorem dX10_in_2 : decode cX10_in 2 = .ok (.if_icmp .gt 12, 3) := by decide +kernel
theorem dX10_in_5 : decode cX10_in 5 = .ok (.iload_n 0, 1) := by decide +kernel
theorem dX10_in_6 : decode cX10_in 6 = .ok (.iload_n 2, 1) := by decide +kernel
theorem dX10_in_7 : decode cX10_in 7 = .ok (.if_icmp .gt 7, 3) := by decide +kernel
theorem dX10_in_10 : decode cX10_in 10 = .ok (.iconst 1, 1) := by decide +kernel
theorem dX10_in_11 : decode cX10_in 11 = .ok (.goto 4, 3) := by decide +kernel
theorem dX10_in_14 : decode cX10_in 14 = .ok (.iconst 0, 1) := by decide +kernel
theorem dX10_in_15 : decode cX10_in 15 = .ok (.ireturn, 1) := by decide +kernel
theorem dX10_one_0 : decode cX10_one 0 = .ok (.iload_n 0, 1) := by decide +kernel
theorem dX10_one_1 : decode cX10_one 1 = .ok (.ifCond .eq 7, 3) := by decide +kernel
theorem dX10_one_4 : decode cX10_one 4 = .ok (.iconst 1, 1) := by decide +kernel
theorem dX10_one_5 : decode cX10_one 5 = .ok (.goto 4, 3) := by decide +kernel
theorem dX10_one_8 : decode cX10_one 8 = .ok (.iconst 0, 1) := by decide +kernel
theorem dX10_one_9 : decode cX10_one 9 = .ok (.ireturn, 1) := by decide +kernel
theorem dX10_may_0 : decode cX10_may 0 = .ok (.aload_n 0, 1) := by decide +kernel
theorem dX10_may_1 : decode cX10_may 1 = .ok (.iload_n 1, 1) := by decide +kernel
theorem dX10_may_2 : decode cX10_may 2 = .ok (.ifCond .ne 7, 3) := by decide +kernel
theorem dX10_may_5 : decode cX10_may 5 = .ok (.iconst 1, 1) := by decide +kernel
theorem dX10_may_6 : decode cX10_may 6 = .ok (.goto 20, 3) := by decide +kernel
theorem dX10_may_9 : decode cX10_may 9 = .ok (.iload_n 2, 1) := by decide +kernel
theorem dX10_may_10 : decode cX10_may 10 = .ok (.ifCond .ne 7, 3) := by decide +kernel
theorem dX10_may_13 : decode cX10_may 13 = .ok (.iconst 2, 1) := by decide +kernel
theorem dX10_may_14 : decode cX10_may 14 = .ok (.goto 12, 3) := by decide +kernel
theorem dX10_may_17 : decode cX10_may 17 = .ok (.iload_n 3, 1) := by decide +kernel
theorem dX10_may_18 : decode cX10_may 18 = .ok (.ifCond .eq 7, 3) := by decide +kernel
theorem dX10_may_21 : decode cX10_may 21 = .ok (.iconst 0, 1) := by decide +kernel
theorem dX10_may_22 : decode cX10_may 22 = .ok (.goto 4, 3) := by decide +kernel
theorem dX10_may_25 : decode cX10_may 25 = .ok (.iconst 3, 1) := by decide +kernel
theorem dX10_may_26 : decode cX10_may 26 = .ok (.putfield 37, 3) := by decide +kernel
theorem dX10_may_29 : decode cX10_may 29 = .ok (.aload_n 0, 1) := by decide +kernel
theorem dX10_may_30 : decode cX10_may 30 = .ok (.getfield 37, 3) := by decide +kernel
theorem dX10_may_33 : decode cX10_may 33 = .ok (.ifCond .ne 7, 3) := by decide +kernel
theorem dX10_may_36 : decode cX10_may 36 = .ok (.iconst 1, 1) := by decide +kernel
theorem dX10_may_37 : decode cX10_may 37 = .ok (.goto 4, 3) := by decide +kernel
theorem dX10_may_40 : decode cX10_may 40 = .ok (.iconst 0, 1) := by decide +kernel
theorem dX10_may_41 : decode cX10_may 41 = .ok (.ireturn, 1) := by decide +kernel
set_option maxRecDepth 20000 in
theorem ggX10_mayTwo_X10_may : GoodIn wsX10_mayTwo wsX10_may := goodIn_r _ [5, 6, 7, 8, 9, 10, 11, 12, 13, 14, 15, 16, 17, 18, 19, 20, 21, 22, 23, 24, 25, 26, 27, 28] (by decide +kernel) (by decide +kernel)
set_option maxRecDepth 20000 in
theorem gX10_mayTwo_X10_may : GoodIn wsX10_mayTwo (wsV RX10 40 RX10 yX10_may wsX10_may) := goodIn_app (goodIn_of _ (by decide +kernel)) ggX10_mayTwo_X10_may
theorem dX10_mayTwo_0 : decode cX10_mayTwo 0 = .ok (.aload_n 0, 1) := by decide +kernel
theorem dX10_mayTwo_1 : decode cX10_mayTwo 1 = .ok (.iload_n 1, 1) := by decide +kernel
theorem dX10_mayTwo_2 : decode cX10_mayTwo 2 = .ok (.iload_n 2, 1) := by decide +kernel
theorem dX10_mayTwo_3 : decode cX10_mayTwo 3 = .ok (.iconst 1, 1) := by decide +kernel
theorem dX10_mayTwo_4 : decode cX10_mayTwo 4 = .ok (.invokevirtual 40, 3) := by decide +kernel
theorem dX10_mayTwo_7 : decode cX10_mayTwo 7 = .ok (.ireturn, 1) := by decide +kernel
set_option maxRecDepth 20000 in
theorem ggX10_mayLook_X10_may : GoodIn wsX10_mayLook wsX10_may := goodIn_r _ [6, 7, 8, 9, 10, 11, 12, 13, 14, 15, 16, 17, 18, 19, 20, 21, 22, 23, 24, 25, 26, 27, 28, 29] (by decide +kernel) (by decide +kernel)
set_option maxRecDepth 20000 in
theorem gX10_mayLook_X10_may : GoodIn wsX10_mayLook (wsV RX10 40 RX10 yX10_may wsX10_may) := goodIn_app (goodIn_of _ (by decide +kernel)) ggX10_mayLook_X10_may
theorem dX10_mayLook_0 : decode cX10_mayLook 0 = .ok (.aload_n 0, 1) := by decide +kernel
theorem dX10_mayLook_1 : decode cX10_mayLook 1 = .ok (.aload_n 0, 1) := by decide +kernel
theorem dX10_mayLook_2 : decode cX10_mayLook 2 = .ok (.getfield 44, 3) := by decide +kernel
theorem dX10_mayLook_5 : decode cX10_mayLook 5 = .ok (.iconst 1, 1) := by decide +kernel
theorem dX10_mayLook_6 : decode cX10_mayLook 6 = .ok (.iconst 1, 1) := by decide +kernel
theorem dX10_mayLook_7 : decode cX10_mayLook 7 = .ok (.invokevirtual 40, 3) := by decide +kernel
theorem dX10_mayLook_10 : decode cX10_mayLook 10 = .ok (.ireturn, 1) := by decide +kernel
theorem dX10_lays_0 : decode cX10_lays 0 = .ok (.iconst 0, 1) := by decide +kernel
theorem dX10_lays_1 : decode cX10_lays 1 = .ok (.istore 4, 2) := by decide +kernel
theorem dX10_lays_3 : decode cX10_lays 3 = .ok (.iload 4, 2) := by decide +kernel
theorem dX10_lays_5 : decode cX10_lays 5 = .ok (.sipush 424, 3) := by decide +kernel
theorem dX10_lays_8 : decode cX10_lays 8 = .ok (.if_icmp .ge 21, 3) := by decide +kernel
theorem dX10_lays_11 : decode cX10_lays 11 = .ok (.aload_n 2, 1) := by decide +kernel
theorem dX10_lays_12 : decode cX10_lays 12 = .ok (.iload_n 3, 1) := by decide +kernel
theorem dX10_lays_13 : decode cX10_lays 13 = .ok (.iload 4, 2) := by decide +kernel
theorem dX10_lays_15 : decode cX10_lays 15 = .ok (.iadd, 1) := by decide +kernel
theorem dX10_lays_16 : decode cX10_lays 16 = .ok (.aload_n 0, 1) := by decide +kernel
theorem dX10_lays_17 : decode cX10_lays 17 = .ok (.iload_n 1, 1) := by decide +kernel
theorem dX10_lays_18 : decode cX10_lays 18 = .ok (.iload 4, 2) := by decide +kernel
theorem dX10_lays_20 : decode cX10_lays 20 = .ok (.iadd, 1) := by decide +kernel
theorem dX10_lays_21 : decode cX10_lays 21 = .ok (.iaload, 1) := by decide +kernel
theorem dX10_lays_22 : decode cX10_lays 22 = .ok (.iastore, 1) := by decide +kernel
theorem dX10_lays_23 : decode cX10_lays 23 = .ok (.iinc 4 1, 3) := by decide +kernel
theorem dX10_lays_26 : decode cX10_lays 26 = .ok (.goto (-23), 3) := by decide +kernel
theorem dX10_lays_29 : decode cX10_lays 29 = .ok (.return_, 1) := by decide +kernel
set_option maxRecDepth 20000 in
theorem ggX10_thinks_X10_lays : GoodIn wsX10_thinks wsX10_lays := goodIn_ca (goodIn_r _ [6] (by decide +kernel) (by decide +kernel)) (goodIn_sub (fun _ h => List.mem_cons_of_mem _ (List.mem_append_right _ h)) (by decide +kernel))
set_option maxRecDepth 20000 in
theorem gX10_thinks_X10_lays : GoodIn wsX10_thinks (va_wsS RX10 48 yX10_lays wsX10_lays) := goodIn_app (goodIn_of _ (by decide +kernel)) ggX10_thinks_X10_lays
theorem dX10_thinks_0 : decode cX10_thinks 0 = .ok (.aload_n 0, 1) := by decide +kernel
theorem dX10_thinks_1 : decode cX10_thinks 1 = .ok (.getfield 9, 3) := by decide +kernel
theorem dX10_thinks_4 : decode cX10_thinks 4 = .ok (.iconst 0, 1) := by decide +kernel
theorem dX10_thinks_5 : decode cX10_thinks 5 = .ok (.aload_n 0, 1) := by decide +kernel
theorem dX10_thinks_6 : decode cX10_thinks 6 = .ok (.getfield 13, 3) := by decide +kernel
theorem dX10_thinks_9 : decode cX10_thinks 9 = .ok (.iconst 0, 1) := by decide +kernel
theorem dX10_thinks_10 : decode cX10_thinks 10 = .ok (.invokestatic 48, 3) := by decide +kernel
theorem dX10_thinks_13 : decode cX10_thinks 13 = .ok (.return_, 1) := by decide +kernel
set_option maxRecDepth 20000 in
theorem ggX10_back_X10_lays : GoodIn wsX10_back wsX10_lays := goodIn_ca (goodIn_r _ [6] (by decide +kernel) (by decide +kernel)) (goodIn_sub (fun _ h => List.mem_cons_of_mem _ (List.mem_append_right _ h)) (by decide +kernel))
set_option maxRecDepth 20000 in
theorem gX10_back_X10_lays : GoodIn wsX10_back (va_wsS RX10 48 yX10_lays wsX10_lays) := goodIn_app (goodIn_of _ (by decide +kernel)) ggX10_back_X10_lays
theorem dX10_back_0 : decode cX10_back 0 = .ok (.aload_n 0, 1) := by decide +kernel
theorem dX10_back_1 : decode cX10_back 1 = .ok (.getfield 13, 3) := by decide +kernel
theorem dX10_back_4 : decode cX10_back 4 = .ok (.iconst 0, 1) := by decide +kernel
theorem dX10_back_5 : decode cX10_back 5 = .ok (.aload_n 0, 1) := by decide +kernel
theorem dX10_back_6 : decode cX10_back 6 = .ok (.getfield 9, 3) := by decide +kernel
theorem dX10_back_9 : decode cX10_back 9 = .ok (.iconst 0, 1) := by decide +kernel
theorem dX10_back_10 : decode cX10_back 10 = .ok (.invokestatic 48, 3) := by decide +kernel
theorem dX10_back_13 : decode cX10_back 13 = .ok (.iload_n 1, 1) := by decide +kernel
theorem dX10_back_14 : decode cX10_back 14 = .ok (.ireturn, 1) := by decide +kernel
set_option maxRecDepth 20000 in
theorem ggX10_append_X10_four : GoodIn wsX10_append wsX10_four := goodIn_ca (goodIn_r _ [7, 8, 2, 9, 10, 11, 12, 13, 14, 15, 16, 17, 18, 19, 20, 21, 22, 23, 24, 25, 26, 27, 28, 29, 30] (by decide +kernel) (by decide +kernel)) (goodIn_sub (fun _ h => List.mem_cons_of_mem _ (List.mem_append_right _ h)) (by decide +kernel))
set_option maxRecDepth 20000 in
theorem gX10_append_X10_four : GoodIn wsX10_append (wsV RX10 55 RX10 yX10_four wsX10_four) := goodIn_app (goodIn_of _ (by decide +kernel)) ggX10_append_X10_four
theorem dX10_append_0 : decode cX10_append 0 = .ok (.aload_n 0, 1) := by decide +kernel
theorem dX10_append_1 : decode cX10_append 1 = .ok (.iconst 0, 1) := by decide +kernel
theorem dX10_append_2 : decode cX10_append 2 = .ok (.putfield 37, 3) := by decide +kernel
theorem dX10_append_5 : decode cX10_append 5 = .ok (.aload_n 0, 1) := by decide +kernel
theorem dX10_append_6 : decode cX10_append 6 = .ok (.getfield 52, 3) := by decide +kernel
theorem dX10_append_9 : decode cX10_append 9 = .ok (.sipush 480, 3) := by decide +kernel
theorem dX10_append_12 : decode cX10_append 12 = .ok (.if_icmp .le 5, 3) := by decide +kernel
theorem dX10_append_15 : decode cX10_append 15 = .ok (.iconst (-1), 1) := by decide +kernel
theorem dX10_append_16 : decode cX10_append 16 = .ok (.ireturn, 1) := by decide +kernel
theorem dX10_append_17 : decode cX10_append 17 = .ok (.aload_n 0, 1) := by decide +kernel
theorem dX10_append_18 : decode cX10_append 18 = .ok (.iload_n 1, 1) := by decide +kernel
theorem dX10_append_19 : decode cX10_append 19 = .ok (.invokevirtual 55, 3) := by decide +kernel
theorem dX10_append_22 : decode cX10_append 22 = .ok (.aload_n 0, 1) := by decide +kernel
theorem dX10_append_23 : decode cX10_append 23 = .ok (.iload_n 2, 1) := by decide +kernel
theorem dX10_append_24 : decode cX10_append 24 = .ok (.invokevirtual 55, 3) := by decide +kernel
theorem dX10_append_27 : decode cX10_append 27 = .ok (.aload_n 0, 1) := by decide +kernel
theorem dX10_append_28 : decode cX10_append 28 = .ok (.iload_n 3, 1) := by decide +kernel
theorem dX10_append_29 : decode cX10_append 29 = .ok (.invokevirtual 55, 3) := by decide +kernel
theorem dX10_append_32 : decode cX10_append 32 = .ok (.aload_n 0, 1) := by decide +kernel
theorem dX10_append_33 : decode cX10_append 33 = .ok (.iload 4, 2) := by decide +kernel
theorem dX10_append_35 : decode cX10_append 35 = .ok (.invokevirtual 55, 3) := by decide +kernel
theorem dX10_append_38 : decode cX10_append 38 = .ok (.aload_n 0, 1) := by decide +kernel
theorem dX10_append_39 : decode cX10_append 39 = .ok (.iload 5, 2) := by decide +kernel
theorem dX10_append_41 : decode cX10_append 41 = .ok (.invokevirtual 55, 3) := by decide +kernel
theorem dX10_append_44 : decode cX10_append 44 = .ok (.aload_n 0, 1) := by decide +kernel
theorem dX10_append_45 : decode cX10_append 45 = .ok (.getfield 52, 3) := by decide +kernel
theorem dX10_append_48 : decode cX10_append 48 = .ok (.ireturn, 1) := by decide +kernel
theorem dX10_four_0 : decode cX10_four 0 = .ok (.iconst 3, 1) := by decide +kernel
theorem dX10_four_1 : decode cX10_four 1 = .ok (.istore_n 2, 1) := by decide +kernel
theorem dX10_four_2 : decode cX10_four 2 = .ok (.iload_n 2, 1) := by decide +kernel
theorem dX10_four_3 : decode cX10_four 3 = .ok (.ifCond .lt 35, 3) := by decide +kernel
theorem dX10_four_6 : decode cX10_four 6 = .ok (.aload_n 0, 1) := by decide +kernel
theorem dX10_four_7 : decode cX10_four 7 = .ok (.getfield 26, 3) := by decide +kernel
theorem dX10_four_10 : decode cX10_four 10 = .ok (.aload_n 0, 1) := by decide +kernel
theorem dX10_four_11 : decode cX10_four 11 = .ok (.getfield 52, 3) := by decide +kernel
theorem dX10_four_14 : decode cX10_four 14 = .ok (.iload_n 1, 1) := by decide +kernel
theorem dX10_four_15 : decode cX10_four 15 = .ok (.bipush 8, 2) := by decide +kernel
theorem dX10_four_17 : decode cX10_four 17 = .ok (.iload_n 2, 1) := by decide +kernel
theorem dX10_four_18 : decode cX10_four 18 = .ok (.imul, 1) := by decide +kernel
theorem dX10_four_19 : decode cX10_four 19 = .ok (.ishr, 1) := by decide +kernel
theorem dX10_four_20 : decode cX10_four 20 = .ok (.i2b, 1) := by decide +kernel
theorem dX10_four_21 : decode cX10_four 21 = .ok (.bastore, 1) := by decide +kernel
theorem dX10_four_22 : decode cX10_four 22 = .ok (.aload_n 0, 1) := by decide +kernel
theorem dX10_four_23 : decode cX10_four 23 = .ok (.dup, 1) := by decide +kernel
theorem dX10_four_24 : decode cX10_four 24 = .ok (.getfield 52, 3) := by decide +kernel
theorem dX10_four_27 : decode cX10_four 27 = .ok (.iconst 1, 1) := by decide +kernel
theorem dX10_four_28 : decode cX10_four 28 = .ok (.iadd, 1) := by decide +kernel
theorem dX10_four_29 : decode cX10_four 29 = .ok (.putfield 52, 3) := by decide +kernel
theorem dX10_four_32 : decode cX10_four 32 = .ok (.iinc 2 (-1), 3) := by decide +kernel
theorem dX10_four_35 : decode cX10_four 35 = .ok (.goto (-33), 3) := by decide +kernel
theorem dX10_four_38 : decode cX10_four 38 = .ok (.return_, 1) := by decide +kernel
theorem dX10_parseErrorCode_0 : decode cX10_parseErrorCode 0 = .ok (.aload_n 0, 1) := by decide +kernel
theorem dX10_parseErrorCode_1 : decode cX10_parseErrorCode 1 = .ok (.iconst 0, 1) := by decide +kernel
theorem dX10_parseErrorCode_2 : decode cX10_parseErrorCode 2 = .ok (.putfield 37, 3) := by decide +kernel
theorem dX10_parseErrorCode_5 : decode cX10_parseErrorCode 5 = .ok (.aload_n 0, 1) := by decide +kernel
theorem dX10_parseErrorCode_6 : decode cX10_parseErrorCode 6 = .ok (.getfield 59, 3) := by decide +kernel
theorem dX10_parseErrorCode_9 : decode cX10_parseErrorCode 9 = .ok (.ireturn, 1) := by decide +kernel
theorem dX10_parseErrorPosition_0 : decode cX10_parseErrorPosition 0 = .ok (.aload_n 0, 1) := by decide +kernel
theorem dX10_parseErrorPosition_1 : decode cX10_parseErrorPosition 1 = .ok (.iconst 0, 1) := by decide +kernel
theorem dX10_parseErrorPosition_2 : decode cX10_parseErrorPosition 2 = .ok (.putfield 37, 3) := by decide +kernel
theorem dX10_parseErrorPosition_5 : decode cX10_parseErrorPosition 5 = .ok (.aload_n 0, 1) := by decide +kernel
theorem dX10_parseErrorPosition_6 : decode cX10_parseErrorPosition 6 = .ok (.getfield 30, 3) := by decide +kernel
theorem dX10_parseErrorPosition_9 : decode cX10_parseErrorPosition 9 = .ok (.ireturn, 1) := by decide +kernel
theorem dX10_bufferLength_0 : decode cX10_bufferLength 0 = .ok (.aload_n 0, 1) := by decide +kernel
theorem dX10_bufferLength_1 : decode cX10_bufferLength 1 = .ok (.iconst 0, 1) := by decide +kernel
theorem dX10_bufferLength_2 : decode cX10_bufferLength 2 = .ok (.putfield 37, 3) := by decide +kernel
theorem dX10_bufferLength_5 : decode cX10_bufferLength 5 = .ok (.aload_n 0, 1) := by decide +kernel
theorem dX10_bufferLength_6 : decode cX10_bufferLength 6 = .ok (.getfield 52, 3) := by decide +kernel
theorem dX10_bufferLength_9 : decode cX10_bufferLength 9 = .ok (.ireturn, 1) := by decide +kernel
set_option maxRecDepth 20000 in
theorem ggX10_isLetter_X10_in : GoodIn wsX10_isLetter wsX10_in := goodIn_r _ [6] (by decide +kernel) (by decide +kernel)
set_option maxRecDepth 20000 in
theorem gX10_isLetter_X10_in : GoodIn wsX10_isLetter (va_wsS RX10 65 yX10_in wsX10_in) := goodIn_app (goodIn_of _ (by decide +kernel)) ggX10_isLetter_X10_in
theorem dX10_isLetter_0 : decode cX10_isLetter 0 = .ok (.iload_n 1, 1) := by decide +kernel
theorem dX10_isLetter_1 : decode cX10_isLetter 1 = .ok (.aload_n 0, 1) := by decide +kernel
theorem dX10_isLetter_2 : decode cX10_isLetter 2 = .ok (.getfield 62, 3) := by decide +kernel
theorem dX10_isLetter_5 : decode cX10_isLetter 5 = .ok (.if_icmp .ge 23, 3) := by decide +kernel
theorem dX10_isLetter_8 : decode cX10_isLetter 8 = .ok (.aload_n 0, 1) := by decide +kernel
theorem dX10_isLetter_9 : decode cX10_isLetter 9 = .ok (.getfield 26, 3) := by decide +kernel
theorem dX10_isLetter_12 : decode cX10_isLetter 12 = .ok (.iload_n 1, 1) := by decide +kernel
theorem dX10_isLetter_13 : decode cX10_isLetter 13 = .ok (.baload, 1) := by decide +kernel
theorem dX10_isLetter_14 : decode cX10_isLetter 14 = .ok (.bipush 97, 2) := by decide +kernel
theorem dX10_isLetter_16 : decode cX10_isLetter 16 = .ok (.bipush 122, 2) := by decide +kernel
theorem dX10_isLetter_18 : decode cX10_isLetter 18 = .ok (.invokestatic 65, 3) := by decide +kernel
theorem dX10_isLetter_21 : decode cX10_isLetter 21 = .ok (.ifCond .eq 7, 3) := by decide +kernel
theorem dX10_isLetter_24 : decode cX10_isLetter 24 = .ok (.iconst 1, 1) := by decide +kernel
theorem dX10_isLetter_25 : decode cX10_isLetter 25 = .ok (.goto 4, 3) := by decide +kernel
theorem dX10_isLetter_28 : decode cX10_isLetter 28 = .ok (.iconst 0, 1) := by decide +kernel
theorem dX10_isLetter_29 : decode cX10_isLetter 29 = .ok (.ireturn, 1) := by decide +kernel
set_option maxRecDepth 20000 in
theorem ggX10_isDigit_X10_in : GoodIn wsX10_isDigit wsX10_in := goodIn_r _ [6] (by decide +kernel) (by decide +kernel)
set_option maxRecDepth 20000 in
theorem gX10_isDigit_X10_in : GoodIn wsX10_isDigit (va_wsS RX10 65 yX10_in wsX10_in) := goodIn_app (goodIn_of _ (by decide +kernel)) ggX10_isDigit_X10_in
theorem dX10_isDigit_0 : decode cX10_isDigit 0 = .ok (.iload_n 1, 1) := by decide +kernel
theorem dX10_isDigit_1 : decode cX10_isDigit 1 = .ok (.aload_n 0, 1) := by decide +kernel
theorem dX10_isDigit_2 : decode cX10_isDigit 2 = .ok (.getfield 62, 3) := by decide +kernel
theorem dX10_isDigit_5 : decode cX10_isDigit 5 = .ok (.if_icmp .ge 23, 3) := by decide +kernel
theorem dX10_isDigit_8 : decode cX10_isDigit 8 = .ok (.aload_n 0, 1) := by decide +kernel
theorem dX10_isDigit_9 : decode cX10_isDigit 9 = .ok (.getfield 26, 3) := by decide +kernel
theorem dX10_isDigit_12 : decode cX10_isDigit 12 = .ok (.iload_n 1, 1) := by decide +kernel
theorem dX10_isDigit_13 : decode cX10_isDigit 13 = .ok (.baload, 1) := by decide +kernel
theorem dX10_isDigit_14 : decode cX10_isDigit 14 = .ok (.bipush 48, 2) := by decide +kernel
theorem dX10_isDigit_16 : decode cX10_isDigit 16 = .ok (.bipush 57, 2) := by decide +kernel
theorem dX10_isDigit_18 : decode cX10_isDigit 18 = .ok (.invokestatic 65, 3) := by decide +kernel
theorem dX10_isDigit_21 : decode cX10_isDigit 21 = .ok (.ifCond .eq 7, 3) := by decide +kernel
theorem dX10_isDigit_24 : decode cX10_isDigit 24 = .ok (.iconst 1, 1) := by decide +kernel
theorem dX10_isDigit_25 : decode cX10_isDigit 25 = .ok (.goto 4, 3) := by decide +kernel
theorem dX10_isDigit_28 : decode cX10_isDigit 28 = .ok (.iconst 0, 1) := by decide +kernel
theorem dX10_isDigit_29 : decode cX10_isDigit 29 = .ok (.ireturn, 1) := by decide +kernel
set_option maxRecDepth 20000 in
theorem ggX10_goes_X10_isLetter : GoodIn wsX10_goes wsX10_isLetter := goodIn_ca (goodIn_r _ [12, 3, 4, 13, 14, 11, 15, 23, 24, 25, 26, 27, 28, 29, 30, 31, 32, 33, 34, 35, 36, 37, 38, 39, 40, 41, 42, 43, 44] (by decide +kernel) (by decide +kernel)) (goodIn_sub (fun _ h => List.mem_cons_of_mem _ (List.mem_append_right _ h)) (by decide +kernel))
set_option maxRecDepth 20000 in
theorem gX10_goes_X10_isLetter : GoodIn wsX10_goes (wsV RX10 78 RX10 yX10_isLetter wsX10_isLetter) := goodIn_app (goodIn_of _ (by decide +kernel)) ggX10_goes_X10_isLetter
set_option maxRecDepth 20000 in
theorem ggX10_goes_X10_isDigit : GoodIn wsX10_goes wsX10_isDigit := goodIn_ca (goodIn_r _ [19, 3, 4, 13, 14, 11, 15, 23, 24, 25, 26, 27, 28, 29, 30, 31, 32, 33, 34, 35, 36, 37, 38, 39, 40, 41, 42, 43, 44] (by decide +kernel) (by decide +kernel)) (goodIn_sub (fun _ h => List.mem_cons_of_mem _ (List.mem_append_right _ h)) (by decide +kernel))
set_option maxRecDepth 20000 in
theorem gX10_goes_X10_isDigit : GoodIn wsX10_goes (wsV RX10 82 RX10 yX10_isDigit wsX10_isDigit) := goodIn_app (goodIn_of _ (by decide +kernel)) ggX10_goes_X10_isDigit
set_option maxRecDepth 20000 in
theorem ggX10_goes_X10_signOfByte : GoodIn wsX10_goes wsX10_signOfByte := goodIn_r _ [22] (by decide +kernel) (by decide +kernel)
set_option maxRecDepth 20000 in
theorem gX10_goes_X10_signOfByte : GoodIn wsX10_goes (va_wsS RX10 88 yX10_signOfByte wsX10_signOfByte) := goodIn_app (goodIn_of _ (by decide +kernel)) ggX10_goes_X10_signOfByte
theorem dX10_goes_0 : decode cX10_goes 0 = .ok (.aload_n 0, 1) := by decide +kernel
theorem dX10_goes_1 : decode cX10_goes 1 = .ok (.getfield 59, 3) := by decide +kernel
theorem dX10_goes_4 : decode cX10_goes 4 = .ok (.ifCond .le 4, 3) := by decide +kernel
theorem dX10_goes_7 : decode cX10_goes 7 = .ok (.return_, 1) := by decide +kernel
theorem dX10_goes_8 : decode cX10_goes 8 = .ok (.aload_n 0, 1) := by decide +kernel
theorem dX10_goes_9 : decode cX10_goes 9 = .ok (.getfield 69, 3) := by decide +kernel
theorem dX10_goes_12 : decode cX10_goes 12 = .ok (.aload_n 0, 1) := by decide +kernel
theorem dX10_goes_13 : decode cX10_goes 13 = .ok (.getfield 62, 3) := by decide +kernel
theorem dX10_goes_16 : decode cX10_goes 16 = .ok (.if_icmp .ge 30, 3) := by decide +kernel
theorem dX10_goes_19 : decode cX10_goes 19 = .ok (.aload_n 0, 1) := by decide +kernel
theorem dX10_goes_20 : decode cX10_goes 20 = .ok (.getfield 26, 3) := by decide +kernel
theorem dX10_goes_23 : decode cX10_goes 23 = .ok (.aload_n 0, 1) := by decide +kernel
theorem dX10_goes_24 : decode cX10_goes 24 = .ok (.getfield 69, 3) := by decide +kernel
theorem dX10_goes_27 : decode cX10_goes 27 = .ok (.baload, 1) := by decide +kernel
theorem dX10_goes_28 : decode cX10_goes 28 = .ok (.bipush 32, 2) := by decide +kernel
theorem dX10_goes_30 : decode cX10_goes 30 = .ok (.if_icmp .ne 16, 3) := by decide +kernel
theorem dX10_goes_33 : decode cX10_goes 33 = .ok (.aload_n 0, 1) := by decide +kernel
theorem dX10_goes_34 : decode cX10_goes 34 = .ok (.dup, 1) := by decide +kernel
theorem dX10_goes_35 : decode cX10_goes 35 = .ok (.getfield 69, 3) := by decide +kernel
theorem dX10_goes_38 : decode cX10_goes 38 = .ok (.iconst 1, 1) := by decide +kernel
theorem dX10_goes_39 : decode cX10_goes 39 = .ok (.iadd, 1) := by decide +kernel
theorem dX10_goes_40 : decode cX10_goes 40 = .ok (.putfield 69, 3) := by decide +kernel
theorem dX10_goes_43 : decode cX10_goes 43 = .ok (.goto (-35), 3) := by decide +kernel
theorem dX10_goes_46 : decode cX10_goes 46 = .ok (.aload_n 0, 1) := by decide +kernel
theorem dX10_goes_47 : decode cX10_goes 47 = .ok (.aload_n 0, 1) := by decide +kernel
theorem dX10_goes_48 : decode cX10_goes 48 = .ok (.getfield 69, 3) := by decide +kernel
theorem dX10_goes_51 : decode cX10_goes 51 = .ok (.putfield 72, 3) := by decide +kernel
theorem dX10_goes_54 : decode cX10_goes 54 = .ok (.aload_n 0, 1) := by decide +kernel
theorem dX10_goes_55 : decode cX10_goes 55 = .ok (.aload_n 0, 1) := by decide +kernel
theorem dX10_goes_56 : decode cX10_goes 56 = .ok (.getfield 69, 3) := by decide +kernel
theorem dX10_goes_59 : decode cX10_goes 59 = .ok (.aload_n 0, 1) := by decide +kernel
theorem dX10_goes_60 : decode cX10_goes 60 = .ok (.getfield 62, 3) := by decide +kernel
theorem dX10_goes_63 : decode cX10_goes 63 = .ok (.if_icmp .ne 7, 3) := by decide +kernel
theorem dX10_goes_66 : decode cX10_goes 66 = .ok (.iconst 1, 1) := by decide +kernel
theorem dX10_goes_67 : decode cX10_goes 67 = .ok (.goto 4, 3) := by decide +kernel
theorem dX10_goes_70 : decode cX10_goes 70 = .ok (.iconst 0, 1) := by decide +kernel
theorem dX10_goes_71 : decode cX10_goes 71 = .ok (.putfield 75, 3) := by decide +kernel
theorem dX10_goes_74 : decode cX10_goes 74 = .ok (.aload_n 0, 1) := by decide +kernel
theorem dX10_goes_75 : decode cX10_goes 75 = .ok (.getfield 75, 3) := by decide +kernel
theorem dX10_goes_78 : decode cX10_goes 78 = .ok (.iconst 1, 1) := by decide +kernel
theorem dX10_goes_79 : decode cX10_goes 79 = .ok (.if_icmp .ne 4, 3) := by decide +kernel
theorem dX10_goes_82 : decode cX10_goes 82 = .ok (.return_, 1) := by decide +kernel
theorem dX10_goes_83 : decode cX10_goes 83 = .ok (.aload_n 0, 1) := by decide +kernel
theorem dX10_goes_84 : decode cX10_goes 84 = .ok (.aload_n 0, 1) := by decide +kernel
theorem dX10_goes_85 : decode cX10_goes 85 = .ok (.getfield 69, 3) := by decide +kernel
theorem dX10_goes_88 : decode cX10_goes 88 = .ok (.invokevirtual 78, 3) := by decide +kernel
theorem dX10_goes_91 : decode cX10_goes 91 = .ok (.ifCond .eq 51, 3) := by decide +kernel
theorem dX10_goes_94 : decode cX10_goes 94 = .ok (.aload_n 0, 1) := by decide +kernel
theorem dX10_goes_95 : decode cX10_goes 95 = .ok (.aload_n 0, 1) := by decide +kernel
theorem dX10_goes_96 : decode cX10_goes 96 = .ok (.getfield 69, 3) := by decide +kernel
theorem dX10_goes_99 : decode cX10_goes 99 = .ok (.invokevirtual 78, 3) := by decide +kernel
theorem dX10_goes_102 : decode cX10_goes 102 = .ok (.ifCond .eq 16, 3) := by decide +kernel
theorem dX10_goes_105 : decode cX10_goes 105 = .ok (.aload_n 0, 1) := by decide +kernel
theorem dX10_goes_106 : decode cX10_goes 106 = .ok (.dup, 1) := by decide +kernel
theorem dX10_goes_107 : decode cX10_goes 107 = .ok (.getfield 69, 3) := by decide +kernel
theorem dX10_goes_110 : decode cX10_goes 110 = .ok (.iconst 1, 1) := by decide +kernel
theorem dX10_goes_111 : decode cX10_goes 111 = .ok (.iadd, 1) := by decide +kernel
theorem dX10_goes_112 : decode cX10_goes 112 = .ok (.putfield 69, 3) := by decide +kernel
theorem dX10_goes_115 : decode cX10_goes 115 = .ok (.goto (-21), 3) := by decide +kernel
theorem dX10_goes_118 : decode cX10_goes 118 = .ok (.aload_n 0, 1) := by decide +kernel
theorem dX10_goes_119 : decode cX10_goes 119 = .ok (.aload_n 0, 1) := by decide +kernel
theorem dX10_goes_120 : decode cX10_goes 120 = .ok (.getfield 69, 3) := by decide +kernel
theorem dX10_goes_123 : decode cX10_goes 123 = .ok (.aload_n 0, 1) := by decide +kernel
theorem dX10_goes_124 : decode cX10_goes 124 = .ok (.getfield 72, 3) := by decide +kernel
theorem dX10_goes_127 : decode cX10_goes 127 = .ok (.isub, 1) := by decide +kernel
theorem dX10_goes_128 : decode cX10_goes 128 = .ok (.bipush 7, 2) := by decide +kernel
theorem dX10_goes_130 : decode cX10_goes 130 = .ok (.if_icmp .gt 7, 3) := by decide +kernel
theorem dX10_goes_133 : decode cX10_goes 133 = .ok (.iconst 2, 1) := by decide +kernel
theorem dX10_goes_134 : decode cX10_goes 134 = .ok (.goto 4, 3) := by decide +kernel
theorem dX10_goes_137 : decode cX10_goes 137 = .ok (.iconst 0, 1) := by decide +kernel
theorem dX10_goes_138 : decode cX10_goes 138 = .ok (.putfield 75, 3) := by decide +kernel
theorem dX10_goes_141 : decode cX10_goes 141 = .ok (.return_, 1) := by decide +kernel
theorem dX10_goes_142 : decode cX10_goes 142 = .ok (.aload_n 0, 1) := by decide +kernel
theorem dX10_goes_143 : decode cX10_goes 143 = .ok (.aload_n 0, 1) := by decide +kernel
theorem dX10_goes_144 : decode cX10_goes 144 = .ok (.getfield 69, 3) := by decide +kernel
theorem dX10_goes_147 : decode cX10_goes 147 = .ok (.invokevirtual 82, 3) := by decide +kernel
theorem dX10_goes_150 : decode cX10_goes 150 = .ok (.ifCond .eq 92, 3) := by decide +kernel
theorem dX10_goes_153 : decode cX10_goes 153 = .ok (.aload_n 0, 1) := by decide +kernel
theorem dX10_goes_154 : decode cX10_goes 154 = .ok (.iconst 0, 1) := by decide +kernel
theorem dX10_goes_155 : decode cX10_goes 155 = .ok (.putfield 85, 3) := by decide +kernel
theorem dX10_goes_158 : decode cX10_goes 158 = .ok (.aload_n 0, 1) := by decide +kernel
theorem dX10_goes_159 : decode cX10_goes 159 = .ok (.aload_n 0, 1) := by decide +kernel
theorem dX10_goes_160 : decode cX10_goes 160 = .ok (.getfield 69, 3) := by decide +kernel
theorem dX10_goes_163 : decode cX10_goes 163 = .ok (.invokevirtual 82, 3) := by decide +kernel
theorem dX10_goes_166 : decode cX10_goes 166 = .ok (.ifCond .eq 53, 3) := by decide +kernel
theorem dX10_goes_169 : decode cX10_goes 169 = .ok (.aload_n 0, 1) := by decide +kernel
theorem dX10_goes_170 : decode cX10_goes 170 = .ok (.getfield 69, 3) := by decide +kernel
theorem dX10_goes_173 : decode cX10_goes 173 = .ok (.aload_n 0, 1) := by decide +kernel
theorem dX10_goes_174 : decode cX10_goes 174 = .ok (.getfield 72, 3) := by decide +kernel
theorem dX10_goes_177 : decode cX10_goes 177 = .ok (.isub, 1) := by decide +kernel
theorem dX10_goes_178 : decode cX10_goes 178 = .ok (.iconst 3, 1) := by decide +kernel
theorem dX10_goes_179 : decode cX10_goes 179 = .ok (.if_icmp .ge 27, 3) := by decide +kernel
theorem dX10_goes_182 : decode cX10_goes 182 = .ok (.aload_n 0, 1) := by decide +kernel
theorem dX10_goes_183 : decode cX10_goes 183 = .ok (.bipush 10, 2) := by decide +kernel
theorem dX10_goes_185 : decode cX10_goes 185 = .ok (.aload_n 0, 1) := by decide +kernel
theorem dX10_goes_186 : decode cX10_goes 186 = .ok (.getfield 85, 3) := by decide +kernel
theorem dX10_goes_189 : decode cX10_goes 189 = .ok (.imul, 1) := by decide +kernel
theorem dX10_goes_190 : decode cX10_goes 190 = .ok (.aload_n 0, 1) := by decide +kernel
theorem dX10_goes_191 : decode cX10_goes 191 = .ok (.getfield 26, 3) := by decide +kernel
theorem dX10_goes_194 : decode cX10_goes 194 = .ok (.aload_n 0, 1) := by decide +kernel
theorem dX10_goes_195 : decode cX10_goes 195 = .ok (.getfield 69, 3) := by decide +kernel
theorem dX10_goes_198 : decode cX10_goes 198 = .ok (.baload, 1) := by decide +kernel
theorem dX10_goes_199 : decode cX10_goes 199 = .ok (.iadd, 1) := by decide +kernel
theorem dX10_goes_200 : decode cX10_goes 200 = .ok (.bipush 48, 2) := by decide +kernel
theorem dX10_goes_202 : decode cX10_goes 202 = .ok (.isub, 1) := by decide +kernel
theorem dX10_goes_203 : decode cX10_goes 203 = .ok (.putfield 85, 3) := by decide +kernel
theorem dX10_goes_206 : decode cX10_goes 206 = .ok (.aload_n 0, 1) := by decide +kernel
theorem dX10_goes_207 : decode cX10_goes 207 = .ok (.dup, 1) := by decide +kernel
theorem dX10_goes_208 : decode cX10_goes 208 = .ok (.getfield 69, 3) := by decide +kernel
theorem dX10_goes_211 : decode cX10_goes 211 = .ok (.iconst 1, 1) := by decide +kernel
theorem dX10_goes_212 : decode cX10_goes 212 = .ok (.iadd, 1) := by decide +kernel
theorem dX10_goes_213 : decode cX10_goes 213 = .ok (.putfield 69, 3) := by decide +kernel
theorem dX10_goes_216 : decode cX10_goes 216 = .ok (.goto (-58), 3) := by decide +kernel
theorem dX10_goes_219 : decode cX10_goes 219 = .ok (.aload_n 0, 1) := by decide +kernel
theorem dX10_goes_220 : decode cX10_goes 220 = .ok (.aload_n 0, 1) := by decide +kernel
theorem dX10_goes_221 : decode cX10_goes 221 = .ok (.getfield 69, 3) := by decide +kernel
theorem dX10_goes_224 : decode cX10_goes 224 = .ok (.aload_n 0, 1) := by decide +kernel
theorem dX10_goes_225 : decode cX10_goes 225 = .ok (.getfield 72, 3) := by decide +kernel
theorem dX10_goes_228 : decode cX10_goes 228 = .ok (.isub, 1) := by decide +kernel
theorem dX10_goes_229 : decode cX10_goes 229 = .ok (.iconst 3, 1) := by decide +kernel
theorem dX10_goes_230 : decode cX10_goes 230 = .ok (.if_icmp .gt 7, 3) := by decide +kernel
theorem dX10_goes_233 : decode cX10_goes 233 = .ok (.iconst 3, 1) := by decide +kernel
theorem dX10_goes_234 : decode cX10_goes 234 = .ok (.goto 4, 3) := by decide +kernel
theorem dX10_goes_237 : decode cX10_goes 237 = .ok (.iconst 0, 1) := by decide +kernel
theorem dX10_goes_238 : decode cX10_goes 238 = .ok (.putfield 75, 3) := by decide +kernel
theorem dX10_goes_241 : decode cX10_goes 241 = .ok (.return_, 1) := by decide +kernel
theorem dX10_goes_242 : decode cX10_goes 242 = .ok (.aload_n 0, 1) := by decide +kernel
theorem dX10_goes_243 : decode cX10_goes 243 = .ok (.aload_n 0, 1) := by decide +kernel
theorem dX10_goes_244 : decode cX10_goes 244 = .ok (.getfield 26, 3) := by decide +kernel
theorem dX10_goes_247 : decode cX10_goes 247 = .ok (.aload_n 0, 1) := by decide +kernel
theorem dX10_goes_248 : decode cX10_goes 248 = .ok (.getfield 69, 3) := by decide +kernel
theorem dX10_goes_251 : decode cX10_goes 251 = .ok (.baload, 1) := by decide +kernel
theorem dX10_goes_252 : decode cX10_goes 252 = .ok (.invokestatic 88, 3) := by decide +kernel
theorem dX10_goes_255 : decode cX10_goes 255 = .ok (.putfield 75, 3) := by decide +kernel
theorem dX10_goes_258 : decode cX10_goes 258 = .ok (.aload_n 0, 1) := by decide +kernel
theorem dX10_goes_259 : decode cX10_goes 259 = .ok (.dup, 1) := by decide +kernel
theorem dX10_goes_260 : decode cX10_goes 260 = .ok (.getfield 69, 3) := by decide +kernel
theorem dX10_goes_263 : decode cX10_goes 263 = .ok (.iconst 1, 1) := by decide +kernel
theorem dX10_goes_264 : decode cX10_goes 264 = .ok (.iadd, 1) := by decide +kernel
theorem dX10_goes_265 : decode cX10_goes 265 = .ok (.putfield 69, 3) := by decide +kernel
theorem dX10_goes_268 : decode cX10_goes 268 = .ok (.return_, 1) := by decide +kernel
theorem dX10_signOfByte_0 : decode cX10_signOfByte 0 = .ok (.iload_n 0, 1) := by decide +kernel
theorem dX10_signOfByte_1 : decode cX10_signOfByte 1 = .ok (.bipush 59, 2) := by decide +kernel
theorem dX10_signOfByte_3 : decode cX10_signOfByte 3 = .ok (.if_icmp .ne 7, 3) := by decide +kernel
theorem dX10_signOfByte_6 : decode cX10_signOfByte 6 = .ok (.iconst 4, 1) := by decide +kernel
theorem dX10_signOfByte_7 : decode cX10_signOfByte 7 = .ok (.goto 25, 3) := by decide +kernel
theorem dX10_signOfByte_10 : decode cX10_signOfByte 10 = .ok (.iload_n 0, 1) := by decide +kernel
theorem dX10_signOfByte_11 : decode cX10_signOfByte 11 = .ok (.bipush 40, 2) := by decide +kernel
theorem dX10_signOfByte_13 : decode cX10_signOfByte 13 = .ok (.if_icmp .ne 7, 3) := by decide +kernel
theorem dX10_signOfByte_16 : decode cX10_signOfByte 16 = .ok (.iconst 5, 1) := by decide +kernel
theorem dX10_signOfByte_17 : decode cX10_signOfByte 17 = .ok (.goto 15, 3) := by decide +kernel
theorem dX10_signOfByte_20 : decode cX10_signOfByte 20 = .ok (.iload_n 0, 1) := by decide +kernel
theorem dX10_signOfByte_21 : decode cX10_signOfByte 21 = .ok (.bipush 41, 2) := by decide +kernel
theorem dX10_signOfByte_23 : decode cX10_signOfByte 23 = .ok (.if_icmp .ne 8, 3) := by decide +kernel
theorem dX10_signOfByte_26 : decode cX10_signOfByte 26 = .ok (.bipush 6, 2) := by decide +kernel
theorem dX10_signOfByte_28 : decode cX10_signOfByte 28 = .ok (.goto 4, 3) := by decide +kernel
theorem dX10_signOfByte_31 : decode cX10_signOfByte 31 = .ok (.iconst 0, 1) := by decide +kernel
theorem dX10_signOfByte_32 : decode cX10_signOfByte 32 = .ok (.ireturn, 1) := by decide +kernel
theorem dX10_faults_0 : decode cX10_faults 0 = .ok (.aload_n 0, 1) := by decide +kernel
theorem dX10_faults_1 : decode cX10_faults 1 = .ok (.getfield 59, 3) := by decide +kernel
theorem dX10_faults_4 : decode cX10_faults 4 = .ok (.ifCond .le 4, 3) := by decide +kernel
theorem dX10_faults_7 : decode cX10_faults 7 = .ok (.return_, 1) := by decide +kernel
theorem dX10_faults_8 : decode cX10_faults 8 = .ok (.aload_n 0, 1) := by decide +kernel
theorem dX10_faults_9 : decode cX10_faults 9 = .ok (.iload_n 1, 1) := by decide +kernel
theorem dX10_faults_10 : decode cX10_faults 10 = .ok (.putfield 59, 3) := by decide +kernel
theorem dX10_faults_13 : decode cX10_faults 13 = .ok (.aload_n 0, 1) := by decide +kernel
theorem dX10_faults_14 : decode cX10_faults 14 = .ok (.aload_n 0, 1) := by decide +kernel
theorem dX10_faults_15 : decode cX10_faults 15 = .ok (.getfield 72, 3) := by decide +kernel
theorem dX10_faults_18 : decode cX10_faults 18 = .ok (.putfield 30, 3) := by decide +kernel
theorem dX10_faults_21 : decode cX10_faults 21 = .ok (.return_, 1) := by decide +kernel
theorem dX10_is_0 : decode cX10_is 0 = .ok (.aload_n 0, 1) := by decide +kernel
theorem dX10_is_1 : decode cX10_is 1 = .ok (.getfield 59, 3) := by decide +kernel
theorem dX10_is_4 : decode cX10_is 4 = .ok (.ifCond .ne 15, 3) := by decide +kernel
theorem dX10_is_7 : decode cX10_is 7 = .ok (.aload_n 0, 1) := by decide +kernel
theorem dX10_is_8 : decode cX10_is 8 = .ok (.getfield 75, 3) := by decide +kernel
theorem dX10_is_11 : decode cX10_is 11 = .ok (.iload_n 1, 1) := by decide +kernel
theorem dX10_is_12 : decode cX10_is 12 = .ok (.if_icmp .ne 7, 3) := by decide +kernel
theorem dX10_is_15 : decode cX10_is 15 = .ok (.iconst 1, 1) := by decide +kernel
theorem dX10_is_16 : decode cX10_is 16 = .ok (.goto 4, 3) := by decide +kernel
theorem dX10_is_19 : decode cX10_is 19 = .ok (.iconst 0, 1) := by decide +kernel
theorem dX10_is_20 : decode cX10_is 20 = .ok (.ireturn, 1) := by decide +kernel
set_option maxRecDepth 20000 in
theorem ggX10_isWord_X10_is : GoodIn wsX10_isWord wsX10_is := goodIn_r _ [8, 9, 10, 60, 61, 62, 63, 64, 65, 66, 67, 68, 69, 70, 71, 72, 73, 74, 75, 76, 77, 78, 79, 80, 81] (by decide +kernel) (by decide +kernel)
set_option maxRecDepth 20000 in
theorem gX10_isWord_X10_is : GoodIn wsX10_isWord (wsV RX10 92 RX10 yX10_is wsX10_is) := goodIn_app (goodIn_of _ (by decide +kernel)) ggX10_isWord_X10_is
set_option maxRecDepth 20000 in
theorem ggX10_isWord_J0_length_8abf5 : GoodIn wsX10_isWord wsJ0_length_8abf5 := goodIn_r _ [15, 16, 17, 18, 19, 14, 20, 21, 22, 82, 83, 84, 85] (by decide +kernel) (by decide +kernel)
set_option maxRecDepth 20000 in
theorem gX10_isWord_J0_length_8abf5 : GoodIn wsX10_isWord (wsV RX10 95 RJ0 yJ0_length_8abf5 wsJ0_length_8abf5) := goodIn_app (goodIn_of _ (by decide +kernel)) ggX10_isWord_J0_length_8abf5
set_option maxRecDepth 20000 in
theorem ggX10_isWord_J0_charAt_5068e : GoodIn wsX10_isWord wsJ0_charAt_5068e := goodIn_r _ [26, 16, 27, 28, 29, 14, 30, 21, 22, 31, 32, 33, 34, 35, 36, 37, 38, 39, 40, 41, 42, 43, 44, 45, 46, 47, 48, 49, 50, 51, 52, 53, 54, 55, 56, 57, 58, 59, 82, 83, 84, 85] (by decide +kernel) (by decide +kernel)
set_option maxRecDepth 20000 in
theorem gX10_isWord_J0_charAt_5068e : GoodIn wsX10_isWord (wsV RX10 101 RJ0 yJ0_charAt_5068e wsJ0_charAt_5068e) := goodIn_app (goodIn_of _ (by decide +kernel)) ggX10_isWord_J0_charAt_5068e
theorem dX10_isWord_0 : decode cX10_isWord 0 = .ok (.aload_n 0, 1) := by decide +kernel
theorem dX10_isWord_1 : decode cX10_isWord 1 = .ok (.iconst 2, 1) := by decide +kernel
theorem dX10_isWord_2 : decode cX10_isWord 2 = .ok (.invokevirtual 92, 3) := by decide +kernel
theorem dX10_isWord_5 : decode cX10_isWord 5 = .ok (.ifCond .eq 19, 3) := by decide +kernel
theorem dX10_isWord_8 : decode cX10_isWord 8 = .ok (.aload_n 0, 1) := by decide +kernel
theorem dX10_isWord_9 : decode cX10_isWord 9 = .ok (.getfield 69, 3) := by decide +kernel
theorem dX10_isWord_12 : decode cX10_isWord 12 = .ok (.aload_n 0, 1) := by decide +kernel
theorem dX10_isWord_13 : decode cX10_isWord 13 = .ok (.getfield 72, 3) := by decide +kernel
theorem dX10_isWord_16 : decode cX10_isWord 16 = .ok (.isub, 1) := by decide +kernel
theorem dX10_isWord_17 : decode cX10_isWord 17 = .ok (.aload_n 1, 1) := by decide +kernel
theorem dX10_isWord_18 : decode cX10_isWord 18 = .ok (.invokevirtual 95, 3) := by decide +kernel
theorem dX10_isWord_21 : decode cX10_isWord 21 = .ok (.if_icmp .eq 5, 3) := by decide +kernel
theorem dX10_isWord_24 : decode cX10_isWord 24 = .ok (.iconst 0, 1) := by decide +kernel
theorem dX10_isWord_25 : decode cX10_isWord 25 = .ok (.ireturn, 1) := by decide +kernel
theorem dX10_isWord_26 : decode cX10_isWord 26 = .ok (.iconst 0, 1) := by decide +kernel
theorem dX10_isWord_27 : decode cX10_isWord 27 = .ok (.istore_n 2, 1) := by decide +kernel
theorem dX10_isWord_28 : decode cX10_isWord 28 = .ok (.iload_n 2, 1) := by decide +kernel
theorem dX10_isWord_29 : decode cX10_isWord 29 = .ok (.aload_n 1, 1) := by decide +kernel
theorem dX10_isWord_30 : decode cX10_isWord 30 = .ok (.invokevirtual 95, 3) := by decide +kernel
theorem dX10_isWord_33 : decode cX10_isWord 33 = .ok (.if_icmp .ge 30, 3) := by decide +kernel
theorem dX10_isWord_36 : decode cX10_isWord 36 = .ok (.aload_n 0, 1) := by decide +kernel
theorem dX10_isWord_37 : decode cX10_isWord 37 = .ok (.getfield 26, 3) := by decide +kernel
theorem dX10_isWord_40 : decode cX10_isWord 40 = .ok (.aload_n 0, 1) := by decide +kernel
theorem dX10_isWord_41 : decode cX10_isWord 41 = .ok (.getfield 72, 3) := by decide +kernel
theorem dX10_isWord_44 : decode cX10_isWord 44 = .ok (.iload_n 2, 1) := by decide +kernel
theorem dX10_isWord_45 : decode cX10_isWord 45 = .ok (.iadd, 1) := by decide +kernel
theorem dX10_isWord_46 : decode cX10_isWord 46 = .ok (.baload, 1) := by decide +kernel
theorem dX10_isWord_47 : decode cX10_isWord 47 = .ok (.aload_n 1, 1) := by decide +kernel
theorem dX10_isWord_48 : decode cX10_isWord 48 = .ok (.iload_n 2, 1) := by decide +kernel
theorem dX10_isWord_49 : decode cX10_isWord 49 = .ok (.invokevirtual 101, 3) := by decide +kernel
theorem dX10_isWord_52 : decode cX10_isWord 52 = .ok (.if_icmp .eq 5, 3) := by decide +kernel
theorem dX10_isWord_55 : decode cX10_isWord 55 = .ok (.iconst 0, 1) := by decide +kernel
theorem dX10_isWord_56 : decode cX10_isWord 56 = .ok (.ireturn, 1) := by decide +kernel
theorem dX10_isWord_57 : decode cX10_isWord 57 = .ok (.iinc 2 1, 3) := by decide +kernel
theorem dX10_isWord_60 : decode cX10_isWord 60 = .ok (.goto (-32), 3) := by decide +kernel
theorem dX10_isWord_63 : decode cX10_isWord 63 = .ok (.iconst 1, 1) := by decide +kernel
theorem dX10_isWord_64 : decode cX10_isWord 64 = .ok (.ireturn, 1) := by decide +kernel
set_option maxRecDepth 20000 in
theorem ggX10_numberHere_X10_is : GoodIn wsX10_numberHere wsX10_is := goodIn_r _ [7, 2, 8, 18, 19, 20, 21, 22, 23, 24, 25, 26, 27, 28, 29, 30, 31, 32, 33, 34, 35, 36, 37, 38, 39] (by decide +kernel) (by decide +kernel)
set_option maxRecDepth 20000 in
theorem gX10_numberHere_X10_is : GoodIn wsX10_numberHere (wsV RX10 92 RX10 yX10_is wsX10_is) := goodIn_app (goodIn_of _ (by decide +kernel)) ggX10_numberHere_X10_is
set_option maxRecDepth 20000 in
theorem ggX10_numberHere_X10_faults : GoodIn wsX10_numberHere wsX10_faults := goodIn_r _ [12, 2, 13, 14, 18, 19, 20, 21, 22, 23, 24, 25, 26, 27, 28, 29, 30, 31, 32, 33, 34, 35, 36, 37, 38, 39] (by decide +kernel) (by decide +kernel)
set_option maxRecDepth 20000 in
theorem gX10_numberHere_X10_faults : GoodIn wsX10_numberHere (wsV RX10 105 RX10 yX10_faults wsX10_faults) := goodIn_app (goodIn_of _ (by decide +kernel)) ggX10_numberHere_X10_faults
set_option maxRecDepth 20000 in
theorem ggX10_numberHere_X10_in : GoodIn wsX10_numberHere wsX10_in := goodIn_r _ [17] (by decide +kernel) (by decide +kernel)
set_option maxRecDepth 20000 in
theorem gX10_numberHere_X10_in : GoodIn wsX10_numberHere (va_wsS RX10 65 yX10_in wsX10_in) := goodIn_app (goodIn_of _ (by decide +kernel)) ggX10_numberHere_X10_in
theorem dX10_numberHere_0 : decode cX10_numberHere 0 = .ok (.aload_n 0, 1) := by decide +kernel
theorem dX10_numberHere_1 : decode cX10_numberHere 1 = .ok (.iconst 3, 1) := by decide +kernel
theorem dX10_numberHere_2 : decode cX10_numberHere 2 = .ok (.invokevirtual 92, 3) := by decide +kernel
theorem dX10_numberHere_5 : decode cX10_numberHere 5 = .ok (.ifCond .ne 11, 3) := by decide +kernel
theorem dX10_numberHere_8 : decode cX10_numberHere 8 = .ok (.aload_n 0, 1) := by decide +kernel
theorem dX10_numberHere_9 : decode cX10_numberHere 9 = .ok (.iconst 1, 1) := by decide +kernel
theorem dX10_numberHere_10 : decode cX10_numberHere 10 = .ok (.invokevirtual 105, 3) := by decide +kernel
theorem dX10_numberHere_13 : decode cX10_numberHere 13 = .ok (.goto 20, 3) := by decide +kernel
theorem dX10_numberHere_16 : decode cX10_numberHere 16 = .ok (.aload_n 0, 1) := by decide +kernel
theorem dX10_numberHere_17 : decode cX10_numberHere 17 = .ok (.getfield 85, 3) := by decide +kernel
theorem dX10_numberHere_20 : decode cX10_numberHere 20 = .ok (.iload_n 1, 1) := by decide +kernel
theorem dX10_numberHere_21 : decode cX10_numberHere 21 = .ok (.iload_n 2, 1) := by decide +kernel
theorem dX10_numberHere_22 : decode cX10_numberHere 22 = .ok (.invokestatic 65, 3) := by decide +kernel
theorem dX10_numberHere_25 : decode cX10_numberHere 25 = .ok (.ifCond .ne 8, 3) := by decide +kernel
theorem dX10_numberHere_28 : decode cX10_numberHere 28 = .ok (.aload_n 0, 1) := by decide +kernel
theorem dX10_numberHere_29 : decode cX10_numberHere 29 = .ok (.iconst 2, 1) := by decide +kernel
theorem dX10_numberHere_30 : decode cX10_numberHere 30 = .ok (.invokevirtual 105, 3) := by decide +kernel
theorem dX10_numberHere_33 : decode cX10_numberHere 33 = .ok (.aload_n 0, 1) := by decide +kernel
theorem dX10_numberHere_34 : decode cX10_numberHere 34 = .ok (.getfield 59, 3) := by decide +kernel
theorem dX10_numberHere_37 : decode cX10_numberHere 37 = .ok (.ifCond .le 7, 3) := by decide +kernel
theorem dX10_numberHere_40 : decode cX10_numberHere 40 = .ok (.iload_n 1, 1) := by decide +kernel
theorem dX10_numberHere_41 : decode cX10_numberHere 41 = .ok (.goto 7, 3) := by decide +kernel
theorem dX10_numberHere_44 : decode cX10_numberHere 44 = .ok (.aload_n 0, 1) := by decide +kernel
theorem dX10_numberHere_45 : decode cX10_numberHere 45 = .ok (.getfield 85, 3) := by decide +kernel
theorem dX10_numberHere_48 : decode cX10_numberHere 48 = .ok (.ireturn, 1) := by decide +kernel
set_option maxRecDepth 20000 in
theorem ggX10_number_X10_numberHere : GoodIn wsX10_number wsX10_numberHere := goodIn_r _ [5, 6, 7, 8, 9, 10, 4, 11, 12, 13, 14, 15, 16, 17, 18, 19, 20, 21, 40, 41, 42, 43, 44, 45, 46, 47, 48, 49, 50, 51, 52, 53, 54, 55, 56, 57, 58, 59, 60, 61] (by decide +kernel) (by decide +kernel)
set_option maxRecDepth 20000 in
theorem gX10_number_X10_numberHere : GoodIn wsX10_number (wsV RX10 108 RX10 yX10_numberHere wsX10_numberHere) := goodIn_app (goodIn_of _ (by decide +kernel)) ggX10_number_X10_numberHere
set_option maxRecDepth 20000 in
theorem ggX10_number_X10_goes : GoodIn wsX10_number wsX10_goes := goodIn_ca (goodIn_r _ [25, 7, 26, 27, 28, 17, 12, 6, 29, 30, 31, 4, 32, 19, 20, 21, 33, 34, 35, 36, 37, 38, 39, 40, 41, 42, 43, 44, 45, 46, 47, 48, 49, 50, 51, 52, 53, 54, 55, 56, 57, 58, 59, 60, 61] (by decide +kernel) (by decide +kernel)) (goodIn_sub (fun _ h => List.mem_cons_of_mem _ (List.mem_append_right _ h)) (by decide +kernel))
set_option maxRecDepth 20000 in
theorem gX10_number_X10_goes : GoodIn wsX10_number (wsV RX10 112 RX10 yX10_goes wsX10_goes) := goodIn_app (goodIn_of _ (by decide +kernel)) ggX10_number_X10_goes
theorem dX10_number_0 : decode cX10_number 0 = .ok (.aload_n 0, 1) := by decide +kernel
theorem dX10_number_1 : decode cX10_number 1 = .ok (.iload_n 1, 1) := by decide +kernel
theorem dX10_number_2 : decode cX10_number 2 = .ok (.iload_n 2, 1) := by decide +kernel
theorem dX10_number_3 : decode cX10_number 3 = .ok (.invokevirtual 108, 3) := by decide +kernel
theorem dX10_number_6 : decode cX10_number 6 = .ok (.istore_n 3, 1) := by decide +kernel
theorem dX10_number_7 : decode cX10_number 7 = .ok (.aload_n 0, 1) := by decide +kernel
theorem dX10_number_8 : decode cX10_number 8 = .ok (.invokevirtual 112, 3) := by decide +kernel
theorem dX10_number_11 : decode cX10_number 11 = .ok (.iload_n 3, 1) := by decide +kernel
theorem dX10_number_12 : decode cX10_number 12 = .ok (.ireturn, 1) := by decide +kernel
set_option maxRecDepth 20000 in
theorem ggX10_readsNumber_X10_goes : GoodIn wsX10_readsNumber wsX10_goes := goodIn_ca (goodIn_r _ [7, 1, 8, 9, 10, 11, 12, 13, 14, 15, 16, 6, 17, 18, 19, 20, 21, 22, 23, 24, 25, 26, 27, 45, 46, 47, 48, 49, 50, 51, 52, 53, 54, 55, 56, 57, 58, 59, 60, 61, 62, 63, 64, 65, 66] (by decide +kernel) (by decide +kernel)) (goodIn_sub (fun _ h => List.mem_cons_of_mem _ (List.mem_append_right _ h)) (by decide +kernel))
set_option maxRecDepth 20000 in
theorem gX10_readsNumber_X10_goes : GoodIn wsX10_readsNumber (wsV RX10 112 RX10 yX10_goes wsX10_goes) := goodIn_app (goodIn_of _ (by decide +kernel)) ggX10_readsNumber_X10_goes
set_option maxRecDepth 20000 in
theorem ggX10_readsNumber_X10_number : GoodIn wsX10_readsNumber wsX10_number := goodIn_ca (goodIn_r _ [31, 32, 33, 34, 6, 35, 13, 1, 36, 37, 38, 39, 12, 40, 41, 42, 43, 11, 44, 18, 19, 20, 3, 4, 5, 7, 8, 9, 10, 14, 15, 16, 17, 21, 22, 23, 24, 25, 26, 27, 45, 46, 47, 48, 49, 50, 51, 52, 53, 54, 55, 56, 57, 58, 59, 60, 61, 62, 63, 64, 65, 66] (by decide +kernel) (by decide +kernel)) (goodIn_sub (fun _ h => List.mem_cons_of_mem _ (List.mem_append_right _ h)) (by decide +kernel))
set_option maxRecDepth 20000 in
theorem gX10_readsNumber_X10_number : GoodIn wsX10_readsNumber (wsV RX10 115 RX10 yX10_number wsX10_number) := goodIn_app (goodIn_of _ (by decide +kernel)) ggX10_readsNumber_X10_number
theorem dX10_readsNumber_0 : decode cX10_readsNumber 0 = .ok (.aload_n 0, 1) := by decide +kernel
theorem dX10_readsNumber_1 : decode cX10_readsNumber 1 = .ok (.invokevirtual 112, 3) := by decide +kernel
theorem dX10_readsNumber_4 : decode cX10_readsNumber 4 = .ok (.aload_n 0, 1) := by decide +kernel
theorem dX10_readsNumber_5 : decode cX10_readsNumber 5 = .ok (.iload_n 2, 1) := by decide +kernel
theorem dX10_readsNumber_6 : decode cX10_readsNumber 6 = .ok (.iload_n 3, 1) := by decide +kernel
theorem dX10_readsNumber_7 : decode cX10_readsNumber 7 = .ok (.invokevirtual 115, 3) := by decide +kernel
theorem dX10_readsNumber_10 : decode cX10_readsNumber 10 = .ok (.istore 4, 2) := by decide +kernel
theorem dX10_readsNumber_12 : decode cX10_readsNumber 12 = .ok (.aload_n 0, 1) := by decide +kernel
theorem dX10_readsNumber_13 : decode cX10_readsNumber 13 = .ok (.getfield 59, 3) := by decide +kernel
theorem dX10_readsNumber_16 : decode cX10_readsNumber 16 = .ok (.ifCond .ne 11, 3) := by decide +kernel
theorem dX10_readsNumber_19 : decode cX10_readsNumber 19 = .ok (.aload_n 0, 1) := by decide +kernel
theorem dX10_readsNumber_20 : decode cX10_readsNumber 20 = .ok (.getfield 9, 3) := by decide +kernel
theorem dX10_readsNumber_23 : decode cX10_readsNumber 23 = .ok (.iload_n 1, 1) := by decide +kernel
theorem dX10_readsNumber_24 : decode cX10_readsNumber 24 = .ok (.iload 4, 2) := by decide +kernel
theorem dX10_readsNumber_26 : decode cX10_readsNumber 26 = .ok (.iastore, 1) := by decide +kernel
theorem dX10_readsNumber_27 : decode cX10_readsNumber 27 = .ok (.return_, 1) := by decide +kernel
set_option maxRecDepth 20000 in
theorem ggX10_readsWalker_X10_goes : GoodIn wsX10_readsWalker wsX10_goes := goodIn_ca (goodIn_r _ [7, 2, 8, 9, 10, 11, 12, 13, 14, 15, 16, 6, 17, 18, 19, 20, 21, 22, 23, 24, 25, 26, 27, 101, 102, 103, 104, 105, 106, 107, 108, 109, 110, 111, 112, 113, 114, 115, 116, 117, 118, 119, 120, 121, 122] (by decide +kernel) (by decide +kernel)) (goodIn_sub (fun _ h => List.mem_cons_of_mem _ (List.mem_append_right _ h)) (by decide +kernel))
set_option maxRecDepth 20000 in
theorem gX10_readsWalker_X10_goes : GoodIn wsX10_readsWalker (wsV RX10 112 RX10 yX10_goes wsX10_goes) := goodIn_app (goodIn_of _ (by decide +kernel)) ggX10_readsWalker_X10_goes
set_option maxRecDepth 20000 in
theorem ggX10_readsWalker_X10_number : GoodIn wsX10_readsWalker wsX10_number := goodIn_ca (goodIn_r _ [31, 32, 33, 34, 6, 35, 13, 2, 36, 37, 38, 39, 12, 40, 41, 42, 43, 11, 44, 18, 19, 20, 3, 4, 5, 7, 8, 9, 10, 14, 15, 16, 17, 21, 22, 23, 24, 25, 26, 27, 101, 102, 103, 104, 105, 106, 107, 108, 109, 110, 111, 112, 113, 114, 115, 116, 117, 118, 119, 120, 121, 122] (by decide +kernel) (by decide +kernel)) (goodIn_sub (fun _ h => List.mem_cons_of_mem _ (List.mem_append_right _ h)) (by decide +kernel))
set_option maxRecDepth 20000 in
theorem gX10_readsWalker_X10_number : GoodIn wsX10_readsWalker (wsV RX10 115 RX10 yX10_number wsX10_number) := goodIn_app (goodIn_of _ (by decide +kernel)) ggX10_readsWalker_X10_number
set_option maxRecDepth 20000 in
theorem ggX10_readsWalker_X10_isWord : GoodIn wsX10_readsWalker wsX10_isWord := goodIn_ca (goodIn_r _ [48, 8, 11, 10, 36, 37, 38, 6, 39, 2, 12, 49, 50, 51, 52, 53, 54, 55, 56, 57, 58, 59, 60, 61, 62, 63, 64, 65, 66, 67, 68, 69, 70, 71, 72, 73, 74, 75, 76, 77, 78, 79, 80, 81, 82, 83, 84, 85, 86, 87, 88, 89, 90, 91, 92, 93, 94, 95, 96, 97, 101, 102, 103, 104, 105, 106, 107, 108, 109, 110, 111, 112, 113, 114, 115, 116, 117, 118, 119, 120, 121, 122, 123, 124, 125, 126] (by decide +kernel) (by decide +kernel)) (goodIn_sub (fun _ h => List.mem_cons_of_mem _ (List.mem_append_right _ h)) (by decide +kernel))
set_option maxRecDepth 20000 in
theorem gX10_readsWalker_X10_isWord : GoodIn wsX10_readsWalker (wsV RX10 120 RX10 yX10_isWord wsX10_isWord) := goodIn_app (goodIn_of _ (by decide +kernel)) ggX10_readsWalker_X10_isWord
set_option maxRecDepth 20000 in
theorem ggX10_readsWalker_X10_faults : GoodIn wsX10_readsWalker wsX10_faults := goodIn_r _ [43, 2, 11, 44, 101, 102, 103, 104, 105, 106, 107, 108, 109, 110, 111, 112, 113, 114, 115, 116, 117, 118, 119, 120, 121, 122] (by decide +kernel) (by decide +kernel)
set_option maxRecDepth 20000 in
theorem gX10_readsWalker_X10_faults : GoodIn wsX10_readsWalker (wsV RX10 105 RX10 yX10_faults wsX10_faults) := goodIn_app (goodIn_of _ (by decide +kernel)) ggX10_readsWalker_X10_faults
set_option maxRecDepth 20000 in
theorem ggX10_readsWalker_X10_one : GoodIn wsX10_readsWalker wsX10_one := goodIn_r _ [100] (by decide +kernel) (by decide +kernel)
set_option maxRecDepth 20000 in
theorem gX10_readsWalker_X10_one : GoodIn wsX10_readsWalker (va_wsS RX10 126 yX10_one wsX10_one) := goodIn_app (goodIn_of _ (by decide +kernel)) ggX10_readsWalker_X10_one
theorem dX10_readsWalker_0 : decode cX10_readsWalker 0 = .ok (.aload_n 0, 1) := by decide +kernel
theorem dX10_readsWalker_1 : decode cX10_readsWalker 1 = .ok (.invokevirtual 112, 3) := by decide +kernel
theorem dX10_readsWalker_4 : decode cX10_readsWalker 4 = .ok (.aload_n 0, 1) := by decide +kernel
theorem dX10_readsWalker_5 : decode cX10_readsWalker 5 = .ok (.iconst 0, 1) := by decide +kernel
theorem dX10_readsWalker_6 : decode cX10_readsWalker 6 = .ok (.aload_n 0, 1) := by decide +kernel
theorem dX10_readsWalker_7 : decode cX10_readsWalker 7 = .ok (.getfield 9, 3) := by decide +kernel
theorem dX10_readsWalker_10 : decode cX10_readsWalker 10 = .ok (.iconst 1, 1) := by decide +kernel
theorem dX10_readsWalker_11 : decode cX10_readsWalker 11 = .ok (.iaload, 1) := by decide +kernel
theorem dX10_readsWalker_12 : decode cX10_readsWalker 12 = .ok (.iconst 1, 1) := by decide +kernel
theorem dX10_readsWalker_13 : decode cX10_readsWalker 13 = .ok (.isub, 1) := by decide +kernel
theorem dX10_readsWalker_14 : decode cX10_readsWalker 14 = .ok (.invokevirtual 115, 3) := by decide +kernel
theorem dX10_readsWalker_17 : decode cX10_readsWalker 17 = .ok (.istore_n 1, 1) := by decide +kernel
theorem dX10_readsWalker_18 : decode cX10_readsWalker 18 = .ok (.aload_n 0, 1) := by decide +kernel
theorem dX10_readsWalker_19 : decode cX10_readsWalker 19 = .ok (.ldc 118, 2) := by decide +kernel
theorem dX10_readsWalker_21 : decode cX10_readsWalker 21 = .ok (.invokevirtual 120, 3) := by decide +kernel
theorem dX10_readsWalker_24 : decode cX10_readsWalker 24 = .ok (.istore_n 2, 1) := by decide +kernel
theorem dX10_readsWalker_25 : decode cX10_readsWalker 25 = .ok (.iload_n 2, 1) := by decide +kernel
theorem dX10_readsWalker_26 : decode cX10_readsWalker 26 = .ok (.ifCond .ne 17, 3) := by decide +kernel
theorem dX10_readsWalker_29 : decode cX10_readsWalker 29 = .ok (.aload_n 0, 1) := by decide +kernel
theorem dX10_readsWalker_30 : decode cX10_readsWalker 30 = .ok (.ldc 124, 2) := by decide +kernel
theorem dX10_readsWalker_32 : decode cX10_readsWalker 32 = .ok (.invokevirtual 120, 3) := by decide +kernel
theorem dX10_readsWalker_35 : decode cX10_readsWalker 35 = .ok (.ifCond .ne 8, 3) := by decide +kernel
theorem dX10_readsWalker_38 : decode cX10_readsWalker 38 = .ok (.aload_n 0, 1) := by decide +kernel
theorem dX10_readsWalker_39 : decode cX10_readsWalker 39 = .ok (.iconst 1, 1) := by decide +kernel
theorem dX10_readsWalker_40 : decode cX10_readsWalker 40 = .ok (.invokevirtual 105, 3) := by decide +kernel
theorem dX10_readsWalker_43 : decode cX10_readsWalker 43 = .ok (.aload_n 0, 1) := by decide +kernel
theorem dX10_readsWalker_44 : decode cX10_readsWalker 44 = .ok (.invokevirtual 112, 3) := by decide +kernel
theorem dX10_readsWalker_47 : decode cX10_readsWalker 47 = .ok (.aload_n 0, 1) := by decide +kernel
theorem dX10_readsWalker_48 : decode cX10_readsWalker 48 = .ok (.getfield 59, 3) := by decide +kernel
theorem dX10_readsWalker_51 : decode cX10_readsWalker 51 = .ok (.ifCond .le 4, 3) := by decide +kernel
theorem dX10_readsWalker_54 : decode cX10_readsWalker 54 = .ok (.return_, 1) := by decide +kernel
theorem dX10_readsWalker_55 : decode cX10_readsWalker 55 = .ok (.aload_n 0, 1) := by decide +kernel
theorem dX10_readsWalker_56 : decode cX10_readsWalker 56 = .ok (.getfield 9, 3) := by decide +kernel
theorem dX10_readsWalker_59 : decode cX10_readsWalker 59 = .ok (.bipush 9, 2) := by decide +kernel
theorem dX10_readsWalker_61 : decode cX10_readsWalker 61 = .ok (.iload_n 1, 1) := by decide +kernel
theorem dX10_readsWalker_62 : decode cX10_readsWalker 62 = .ok (.iastore, 1) := by decide +kernel
theorem dX10_readsWalker_63 : decode cX10_readsWalker 63 = .ok (.aload_n 0, 1) := by decide +kernel
theorem dX10_readsWalker_64 : decode cX10_readsWalker 64 = .ok (.getfield 9, 3) := by decide +kernel
theorem dX10_readsWalker_67 : decode cX10_readsWalker 67 = .ok (.bipush 10, 2) := by decide +kernel
theorem dX10_readsWalker_69 : decode cX10_readsWalker 69 = .ok (.iload_n 2, 1) := by decide +kernel
theorem dX10_readsWalker_70 : decode cX10_readsWalker 70 = .ok (.invokestatic 126, 3) := by decide +kernel
theorem dX10_readsWalker_73 : decode cX10_readsWalker 73 = .ok (.iastore, 1) := by decide +kernel
theorem dX10_readsWalker_74 : decode cX10_readsWalker 74 = .ok (.return_, 1) := by decide +kernel
set_option maxRecDepth 20000 in
theorem ggX10_moveHere_X10_isWord : GoodIn wsX10_moveHere wsX10_isWord := goodIn_ca (goodIn_r _ [5, 6, 7, 8, 9, 10, 11, 4, 12, 13, 14, 15, 16, 17, 18, 19, 20, 21, 22, 23, 24, 25, 26, 27, 28, 29, 30, 31, 32, 33, 34, 35, 36, 37, 38, 39, 40, 41, 42, 43, 44, 45, 46, 47, 48, 49, 50, 51, 52, 53, 54, 55, 56, 57, 58, 59, 60, 61, 62, 63, 64, 65, 66, 67, 68, 69, 70, 71, 72, 73, 74, 75, 76, 77, 78, 79, 80, 81, 82, 83, 84, 85, 86, 87, 88, 89] (by decide +kernel) (by decide +kernel)) (goodIn_sub (fun _ h => List.mem_cons_of_mem _ (List.mem_append_right _ h)) (by decide +kernel))
set_option maxRecDepth 20000 in
theorem gX10_moveHere_X10_isWord : GoodIn wsX10_moveHere (wsV RX10 120 RX10 yX10_isWord wsX10_isWord) := goodIn_app (goodIn_of _ (by decide +kernel)) ggX10_moveHere_X10_isWord
theorem dX10_moveHere_0 : decode cX10_moveHere 0 = .ok (.aload_n 0, 1) := by decide +kernel
theorem dX10_moveHere_1 : decode cX10_moveHere 1 = .ok (.ldc 130, 2) := by decide +kernel
theorem dX10_moveHere_3 : decode cX10_moveHere 3 = .ok (.invokevirtual 120, 3) := by decide +kernel
theorem dX10_moveHere_6 : decode cX10_moveHere 6 = .ok (.ifCond .eq 5, 3) := by decide +kernel
theorem dX10_moveHere_9 : decode cX10_moveHere 9 = .ok (.iconst 0, 1) := by decide +kernel
theorem dX10_moveHere_10 : decode cX10_moveHere 10 = .ok (.ireturn, 1) := by decide +kernel
theorem dX10_moveHere_11 : decode cX10_moveHere 11 = .ok (.aload_n 0, 1) := by decide +kernel
theorem dX10_moveHere_12 : decode cX10_moveHere 12 = .ok (.ldc 132, 2) := by decide +kernel
theorem dX10_moveHere_14 : decode cX10_moveHere 14 = .ok (.invokevirtual 120, 3) := by decide +kernel
theorem dX10_moveHere_17 : decode cX10_moveHere 17 = .ok (.ifCond .eq 5, 3) := by decide +kernel
theorem dX10_moveHere_20 : decode cX10_moveHere 20 = .ok (.iconst 1, 1) := by decide +kernel
theorem dX10_moveHere_21 : decode cX10_moveHere 21 = .ok (.ireturn, 1) := by decide +kernel
theorem dX10_moveHere_22 : decode cX10_moveHere 22 = .ok (.aload_n 0, 1) := by decide +kernel
theorem dX10_moveHere_23 : decode cX10_moveHere 23 = .ok (.ldc 134, 2) := by decide +kernel
theorem dX10_moveHere_25 : decode cX10_moveHere 25 = .ok (.invokevirtual 120, 3) := by decide +kernel
theorem dX10_moveHere_28 : decode cX10_moveHere 28 = .ok (.ifCond .eq 5, 3) := by decide +kernel
theorem dX10_moveHere_31 : decode cX10_moveHere 31 = .ok (.iconst 2, 1) := by decide +kernel
theorem dX10_moveHere_32 : decode cX10_moveHere 32 = .ok (.ireturn, 1) := by decide +kernel
theorem dX10_moveHere_33 : decode cX10_moveHere 33 = .ok (.aload_n 0, 1) := by decide +kernel
theorem dX10_moveHere_34 : decode cX10_moveHere 34 = .ok (.ldc 124, 2) := by decide +kernel
theorem dX10_moveHere_36 : decode cX10_moveHere 36 = .ok (.invokevirtual 120, 3) := by decide +kernel
theorem dX10_moveHere_39 : decode cX10_moveHere 39 = .ok (.ifCond .eq 5, 3) := by decide +kernel
theorem dX10_moveHere_42 : decode cX10_moveHere 42 = .ok (.iconst 3, 1) := by decide +kernel
theorem dX10_moveHere_43 : decode cX10_moveHere 43 = .ok (.ireturn, 1) := by decide +kernel
theorem dX10_moveHere_44 : decode cX10_moveHere 44 = .ok (.aload_n 0, 1) := by decide +kernel
theorem dX10_moveHere_45 : decode cX10_moveHere 45 = .ok (.ldc 118, 2) := by decide +kernel
theorem dX10_moveHere_47 : decode cX10_moveHere 47 = .ok (.invokevirtual 120, 3) := by decide +kernel
theorem dX10_moveHere_50 : decode cX10_moveHere 50 = .ok (.ifCond .eq 7, 3) := by decide +kernel
theorem dX10_moveHere_53 : decode cX10_moveHere 53 = .ok (.iconst 4, 1) := by decide +kernel
theorem dX10_moveHere_54 : decode cX10_moveHere 54 = .ok (.goto 4, 3) := by decide +kernel
theorem dX10_moveHere_57 : decode cX10_moveHere 57 = .ok (.iconst (-1), 1) := by decide +kernel
theorem dX10_moveHere_58 : decode cX10_moveHere 58 = .ok (.ireturn, 1) := by decide +kernel
set_option maxRecDepth 20000 in
theorem ggX10_readsCat_X10_goes : GoodIn wsX10_readsCat wsX10_goes := goodIn_ca (goodIn_r _ [7, 1, 8, 9, 10, 11, 12, 13, 14, 15, 16, 6, 17, 18, 19, 20, 21, 22, 23, 24, 25, 26, 27, 106, 107, 108, 109, 110, 111, 112, 113, 114, 115, 116, 117, 118, 119, 120, 121, 122, 123, 124, 125, 126, 127] (by decide +kernel) (by decide +kernel)) (goodIn_sub (fun _ h => List.mem_cons_of_mem _ (List.mem_append_right _ h)) (by decide +kernel))
set_option maxRecDepth 20000 in
theorem gX10_readsCat_X10_goes : GoodIn wsX10_readsCat (wsV RX10 112 RX10 yX10_goes wsX10_goes) := goodIn_app (goodIn_of _ (by decide +kernel)) ggX10_readsCat_X10_goes
set_option maxRecDepth 20000 in
theorem ggX10_readsCat_X10_tiles : GoodIn wsX10_readsCat wsX10_tiles := goodIn_ca (goodIn_r _ [31, 2, 106, 107, 108, 109, 110, 111, 112, 113, 114, 115, 116, 117, 118, 119, 120, 121, 122, 123, 124, 125, 126, 127] (by decide +kernel) (by decide +kernel)) (goodIn_sub (fun _ h => List.mem_cons_of_mem _ (List.mem_append_right _ h)) (by decide +kernel))
set_option maxRecDepth 20000 in
theorem gX10_readsCat_X10_tiles : GoodIn wsX10_readsCat (wsV RX10 136 RX10 yX10_tiles wsX10_tiles) := goodIn_app (goodIn_of _ (by decide +kernel)) ggX10_readsCat_X10_tiles
set_option maxRecDepth 20000 in
theorem ggX10_readsCat_X10_number : GoodIn wsX10_readsCat wsX10_number := goodIn_ca (goodIn_r _ [35, 36, 37, 38, 6, 39, 13, 1, 40, 41, 42, 43, 12, 44, 45, 46, 47, 11, 48, 18, 19, 20, 3, 4, 5, 7, 8, 9, 10, 14, 15, 16, 17, 21, 22, 23, 24, 25, 26, 27, 106, 107, 108, 109, 110, 111, 112, 113, 114, 115, 116, 117, 118, 119, 120, 121, 122, 123, 124, 125, 126, 127] (by decide +kernel) (by decide +kernel)) (goodIn_sub (fun _ h => List.mem_cons_of_mem _ (List.mem_append_right _ h)) (by decide +kernel))
set_option maxRecDepth 20000 in
theorem gX10_readsCat_X10_number : GoodIn wsX10_readsCat (wsV RX10 115 RX10 yX10_number wsX10_number) := goodIn_app (goodIn_of _ (by decide +kernel)) ggX10_readsCat_X10_number
set_option maxRecDepth 20000 in
theorem ggX10_readsCat_X10_moveHere : GoodIn wsX10_readsCat wsX10_moveHere := goodIn_ca (goodIn_r _ [52, 53, 54, 55, 6, 56, 8, 11, 10, 40, 41, 42, 43, 1, 12, 57, 58, 59, 60, 61, 62, 63, 64, 65, 66, 67, 68, 69, 70, 71, 72, 73, 74, 75, 76, 77, 78, 79, 80, 81, 82, 83, 84, 85, 86, 87, 88, 89, 90, 91, 92, 93, 94, 95, 96, 97, 98, 99, 100, 101, 102, 103, 104, 105, 106, 107, 108, 109, 110, 111, 112, 113, 114, 115, 116, 117, 118, 119, 120, 121, 122, 123, 124, 125, 126, 127, 128, 129, 130, 131] (by decide +kernel) (by decide +kernel)) (goodIn_sub (fun _ h => List.mem_cons_of_mem _ (List.mem_append_right _ h)) (by decide +kernel))
set_option maxRecDepth 20000 in
theorem gX10_readsCat_X10_moveHere : GoodIn wsX10_readsCat (wsV RX10 139 RX10 yX10_moveHere wsX10_moveHere) := goodIn_app (goodIn_of _ (by decide +kernel)) ggX10_readsCat_X10_moveHere
set_option maxRecDepth 20000 in
theorem ggX10_readsCat_X10_faults : GoodIn wsX10_readsCat wsX10_faults := goodIn_r _ [47, 1, 11, 48, 106, 107, 108, 109, 110, 111, 112, 113, 114, 115, 116, 117, 118, 119, 120, 121, 122, 123, 124, 125, 126, 127] (by decide +kernel) (by decide +kernel)
set_option maxRecDepth 20000 in
theorem gX10_readsCat_X10_faults : GoodIn wsX10_readsCat (wsV RX10 105 RX10 yX10_faults wsX10_faults) := goodIn_app (goodIn_of _ (by decide +kernel)) ggX10_readsCat_X10_faults
theorem dX10_readsCat_0 : decode cX10_readsCat 0 = .ok (.aload_n 0, 1) := by decide +kernel
theorem dX10_readsCat_1 : decode cX10_readsCat 1 = .ok (.invokevirtual 112, 3) := by decide +kernel
theorem dX10_readsCat_4 : decode cX10_readsCat 4 = .ok (.aload_n 0, 1) := by decide +kernel
theorem dX10_readsCat_5 : decode cX10_readsCat 5 = .ok (.iconst 0, 1) := by decide +kernel
theorem dX10_readsCat_6 : decode cX10_readsCat 6 = .ok (.aload_n 0, 1) := by decide +kernel
theorem dX10_readsCat_7 : decode cX10_readsCat 7 = .ok (.invokevirtual 136, 3) := by decide +kernel
theorem dX10_readsCat_10 : decode cX10_readsCat 10 = .ok (.iconst 1, 1) := by decide +kernel
theorem dX10_readsCat_11 : decode cX10_readsCat 11 = .ok (.isub, 1) := by decide +kernel
theorem dX10_readsCat_12 : decode cX10_readsCat 12 = .ok (.invokevirtual 115, 3) := by decide +kernel
theorem dX10_readsCat_15 : decode cX10_readsCat 15 = .ok (.istore_n 1, 1) := by decide +kernel
theorem dX10_readsCat_16 : decode cX10_readsCat 16 = .ok (.aload_n 0, 1) := by decide +kernel
theorem dX10_readsCat_17 : decode cX10_readsCat 17 = .ok (.getfield 59, 3) := by decide +kernel
theorem dX10_readsCat_20 : decode cX10_readsCat 20 = .ok (.ifCond .le 4, 3) := by decide +kernel
theorem dX10_readsCat_23 : decode cX10_readsCat 23 = .ok (.return_, 1) := by decide +kernel
theorem dX10_readsCat_24 : decode cX10_readsCat 24 = .ok (.aload_n 0, 1) := by decide +kernel
theorem dX10_readsCat_25 : decode cX10_readsCat 25 = .ok (.getfield 9, 3) := by decide +kernel
theorem dX10_readsCat_28 : decode cX10_readsCat 28 = .ok (.bipush 16, 2) := by decide +kernel
theorem dX10_readsCat_30 : decode cX10_readsCat 30 = .ok (.iload_n 1, 1) := by decide +kernel
theorem dX10_readsCat_31 : decode cX10_readsCat 31 = .ok (.iastore, 1) := by decide +kernel
theorem dX10_readsCat_32 : decode cX10_readsCat 32 = .ok (.aload_n 0, 1) := by decide +kernel
theorem dX10_readsCat_33 : decode cX10_readsCat 33 = .ok (.getfield 9, 3) := by decide +kernel
theorem dX10_readsCat_36 : decode cX10_readsCat 36 = .ok (.bipush 17, 2) := by decide +kernel
theorem dX10_readsCat_38 : decode cX10_readsCat 38 = .ok (.iconst 0, 1) := by decide +kernel
theorem dX10_readsCat_39 : decode cX10_readsCat 39 = .ok (.iastore, 1) := by decide +kernel
theorem dX10_readsCat_40 : decode cX10_readsCat 40 = .ok (.aload_n 0, 1) := by decide +kernel
theorem dX10_readsCat_41 : decode cX10_readsCat 41 = .ok (.invokevirtual 139, 3) := by decide +kernel
theorem dX10_readsCat_44 : decode cX10_readsCat 44 = .ok (.iconst (-1), 1) := by decide +kernel
theorem dX10_readsCat_45 : decode cX10_readsCat 45 = .ok (.if_icmp .eq 65, 3) := by decide +kernel
theorem dX10_readsCat_48 : decode cX10_readsCat 48 = .ok (.aload_n 0, 1) := by decide +kernel
theorem dX10_readsCat_49 : decode cX10_readsCat 49 = .ok (.getfield 9, 3) := by decide +kernel
theorem dX10_readsCat_52 : decode cX10_readsCat 52 = .ok (.bipush 17, 2) := by decide +kernel
theorem dX10_readsCat_54 : decode cX10_readsCat 54 = .ok (.iaload, 1) := by decide +kernel
theorem dX10_readsCat_55 : decode cX10_readsCat 55 = .ok (.bipush 30, 2) := by decide +kernel
theorem dX10_readsCat_57 : decode cX10_readsCat 57 = .ok (.if_icmp .ne 8, 3) := by decide +kernel
theorem dX10_readsCat_60 : decode cX10_readsCat 60 = .ok (.aload_n 0, 1) := by decide +kernel
theorem dX10_readsCat_61 : decode cX10_readsCat 61 = .ok (.iconst 4, 1) := by decide +kernel
theorem dX10_readsCat_62 : decode cX10_readsCat 62 = .ok (.invokevirtual 105, 3) := by decide +kernel
theorem dX10_readsCat_65 : decode cX10_readsCat 65 = .ok (.aload_n 0, 1) := by decide +kernel
theorem dX10_readsCat_66 : decode cX10_readsCat 66 = .ok (.getfield 59, 3) := by decide +kernel
theorem dX10_readsCat_69 : decode cX10_readsCat 69 = .ok (.ifCond .le 4, 3) := by decide +kernel
theorem dX10_readsCat_72 : decode cX10_readsCat 72 = .ok (.return_, 1) := by decide +kernel
theorem dX10_readsCat_73 : decode cX10_readsCat 73 = .ok (.aload_n 0, 1) := by decide +kernel
theorem dX10_readsCat_74 : decode cX10_readsCat 74 = .ok (.getfield 9, 3) := by decide +kernel
theorem dX10_readsCat_77 : decode cX10_readsCat 77 = .ok (.bipush 54, 2) := by decide +kernel
theorem dX10_readsCat_79 : decode cX10_readsCat 79 = .ok (.aload_n 0, 1) := by decide +kernel
theorem dX10_readsCat_80 : decode cX10_readsCat 80 = .ok (.getfield 9, 3) := by decide +kernel
theorem dX10_readsCat_83 : decode cX10_readsCat 83 = .ok (.bipush 17, 2) := by decide +kernel
theorem dX10_readsCat_85 : decode cX10_readsCat 85 = .ok (.iaload, 1) := by decide +kernel
theorem dX10_readsCat_86 : decode cX10_readsCat 86 = .ok (.iadd, 1) := by decide +kernel
theorem dX10_readsCat_87 : decode cX10_readsCat 87 = .ok (.aload_n 0, 1) := by decide +kernel
theorem dX10_readsCat_88 : decode cX10_readsCat 88 = .ok (.invokevirtual 139, 3) := by decide +kernel
theorem dX10_readsCat_91 : decode cX10_readsCat 91 = .ok (.iastore, 1) := by decide +kernel
theorem dX10_readsCat_92 : decode cX10_readsCat 92 = .ok (.aload_n 0, 1) := by decide +kernel
theorem dX10_readsCat_93 : decode cX10_readsCat 93 = .ok (.getfield 9, 3) := by decide +kernel
theorem dX10_readsCat_96 : decode cX10_readsCat 96 = .ok (.bipush 17, 2) := by decide +kernel
theorem dX10_readsCat_98 : decode cX10_readsCat 98 = .ok (.dup2, 1) := by decide +kernel
theorem dX10_readsCat_99 : decode cX10_readsCat 99 = .ok (.iaload, 1) := by decide +kernel
theorem dX10_readsCat_100 : decode cX10_readsCat 100 = .ok (.iconst 1, 1) := by decide +kernel
theorem dX10_readsCat_101 : decode cX10_readsCat 101 = .ok (.iadd, 1) := by decide +kernel
theorem dX10_readsCat_102 : decode cX10_readsCat 102 = .ok (.iastore, 1) := by decide +kernel
theorem dX10_readsCat_103 : decode cX10_readsCat 103 = .ok (.aload_n 0, 1) := by decide +kernel
theorem dX10_readsCat_104 : decode cX10_readsCat 104 = .ok (.invokevirtual 112, 3) := by decide +kernel
theorem dX10_readsCat_107 : decode cX10_readsCat 107 = .ok (.goto (-67), 3) := by decide +kernel
theorem dX10_readsCat_110 : decode cX10_readsCat 110 = .ok (.return_, 1) := by decide +kernel
set_option maxRecDepth 20000 in
theorem ggX10_readsDraught_X10_goes : GoodIn wsX10_readsDraught wsX10_goes := goodIn_ca (goodIn_r _ [7, 2, 8, 9, 10, 11, 12, 13, 14, 15, 16, 6, 17, 18, 19, 20, 21, 22, 23, 24, 25, 26, 27, 45, 46, 47, 48, 49, 50, 51, 52, 53, 54, 55, 56, 57, 58, 59, 60, 61, 62, 63, 64, 65, 66] (by decide +kernel) (by decide +kernel)) (goodIn_sub (fun _ h => List.mem_cons_of_mem _ (List.mem_append_right _ h)) (by decide +kernel))
set_option maxRecDepth 20000 in
theorem gX10_readsDraught_X10_goes : GoodIn wsX10_readsDraught (wsV RX10 112 RX10 yX10_goes wsX10_goes) := goodIn_app (goodIn_of _ (by decide +kernel)) ggX10_readsDraught_X10_goes
set_option maxRecDepth 20000 in
theorem ggX10_readsDraught_X10_number : GoodIn wsX10_readsDraught wsX10_number := goodIn_ca (goodIn_r _ [31, 32, 33, 34, 6, 35, 13, 2, 36, 37, 38, 39, 12, 40, 41, 42, 43, 11, 44, 18, 19, 20, 3, 4, 5, 7, 8, 9, 10, 14, 15, 16, 17, 21, 22, 23, 24, 25, 26, 27, 45, 46, 47, 48, 49, 50, 51, 52, 53, 54, 55, 56, 57, 58, 59, 60, 61, 62, 63, 64, 65, 66] (by decide +kernel) (by decide +kernel)) (goodIn_sub (fun _ h => List.mem_cons_of_mem _ (List.mem_append_right _ h)) (by decide +kernel))
set_option maxRecDepth 20000 in
theorem gX10_readsDraught_X10_number : GoodIn wsX10_readsDraught (wsV RX10 115 RX10 yX10_number wsX10_number) := goodIn_app (goodIn_of _ (by decide +kernel)) ggX10_readsDraught_X10_number
theorem dX10_readsDraught_0 : decode cX10_readsDraught 0 = .ok (.aload_n 0, 1) := by decide +kernel
theorem dX10_readsDraught_1 : decode cX10_readsDraught 1 = .ok (.invokevirtual 112, 3) := by decide +kernel
theorem dX10_readsDraught_4 : decode cX10_readsDraught 4 = .ok (.aload_n 0, 1) := by decide +kernel
theorem dX10_readsDraught_5 : decode cX10_readsDraught 5 = .ok (.iconst 0, 1) := by decide +kernel
theorem dX10_readsDraught_6 : decode cX10_readsDraught 6 = .ok (.aload_n 0, 1) := by decide +kernel
theorem dX10_readsDraught_7 : decode cX10_readsDraught 7 = .ok (.getfield 9, 3) := by decide +kernel
theorem dX10_readsDraught_10 : decode cX10_readsDraught 10 = .ok (.iconst 1, 1) := by decide +kernel
theorem dX10_readsDraught_11 : decode cX10_readsDraught 11 = .ok (.iaload, 1) := by decide +kernel
theorem dX10_readsDraught_12 : decode cX10_readsDraught 12 = .ok (.iconst 1, 1) := by decide +kernel
theorem dX10_readsDraught_13 : decode cX10_readsDraught 13 = .ok (.isub, 1) := by decide +kernel
theorem dX10_readsDraught_14 : decode cX10_readsDraught 14 = .ok (.invokevirtual 115, 3) := by decide +kernel
theorem dX10_readsDraught_17 : decode cX10_readsDraught 17 = .ok (.istore_n 1, 1) := by decide +kernel
theorem dX10_readsDraught_18 : decode cX10_readsDraught 18 = .ok (.aload_n 0, 1) := by decide +kernel
theorem dX10_readsDraught_19 : decode cX10_readsDraught 19 = .ok (.iconst 2, 1) := by decide +kernel
theorem dX10_readsDraught_20 : decode cX10_readsDraught 20 = .ok (.bipush 60, 2) := by decide +kernel
theorem dX10_readsDraught_22 : decode cX10_readsDraught 22 = .ok (.invokevirtual 115, 3) := by decide +kernel
theorem dX10_readsDraught_25 : decode cX10_readsDraught 25 = .ok (.istore_n 2, 1) := by decide +kernel
theorem dX10_readsDraught_26 : decode cX10_readsDraught 26 = .ok (.aload_n 0, 1) := by decide +kernel
theorem dX10_readsDraught_27 : decode cX10_readsDraught 27 = .ok (.getfield 59, 3) := by decide +kernel
theorem dX10_readsDraught_30 : decode cX10_readsDraught 30 = .ok (.ifCond .ne 13, 3) := by decide +kernel
theorem dX10_readsDraught_33 : decode cX10_readsDraught 33 = .ok (.aload_n 0, 1) := by decide +kernel
theorem dX10_readsDraught_34 : decode cX10_readsDraught 34 = .ok (.getfield 9, 3) := by decide +kernel
theorem dX10_readsDraught_37 : decode cX10_readsDraught 37 = .ok (.bipush 36, 2) := by decide +kernel
theorem dX10_readsDraught_39 : decode cX10_readsDraught 39 = .ok (.iload_n 1, 1) := by decide +kernel
theorem dX10_readsDraught_40 : decode cX10_readsDraught 40 = .ok (.iadd, 1) := by decide +kernel
theorem dX10_readsDraught_41 : decode cX10_readsDraught 41 = .ok (.iload_n 2, 1) := by decide +kernel
theorem dX10_readsDraught_42 : decode cX10_readsDraught 42 = .ok (.iastore, 1) := by decide +kernel
theorem dX10_readsDraught_43 : decode cX10_readsDraught 43 = .ok (.return_, 1) := by decide +kernel
set_option maxRecDepth 20000 in
theorem ggX10_readsCloud_X10_faults : GoodIn wsX10_readsCloud wsX10_faults := goodIn_r _ [7, 2, 8, 9, 45, 46, 47, 48, 49, 50, 51, 52, 53, 54, 55, 56, 57, 58, 59, 60, 61, 62, 63, 64, 65, 66] (by decide +kernel) (by decide +kernel)
set_option maxRecDepth 20000 in
theorem gX10_readsCloud_X10_faults : GoodIn wsX10_readsCloud (wsV RX10 105 RX10 yX10_faults wsX10_faults) := goodIn_app (goodIn_of _ (by decide +kernel)) ggX10_readsCloud_X10_faults
set_option maxRecDepth 20000 in
theorem ggX10_readsCloud_X10_goes : GoodIn wsX10_readsCloud wsX10_goes := goodIn_ca (goodIn_r _ [13, 2, 14, 15, 16, 8, 17, 18, 19, 20, 21, 6, 22, 23, 24, 25, 26, 27, 28, 29, 30, 31, 32, 45, 46, 47, 48, 49, 50, 51, 52, 53, 54, 55, 56, 57, 58, 59, 60, 61, 62, 63, 64, 65, 66] (by decide +kernel) (by decide +kernel)) (goodIn_sub (fun _ h => List.mem_cons_of_mem _ (List.mem_append_right _ h)) (by decide +kernel))
set_option maxRecDepth 20000 in
theorem gX10_readsCloud_X10_goes : GoodIn wsX10_readsCloud (wsV RX10 112 RX10 yX10_goes wsX10_goes) := goodIn_app (goodIn_of _ (by decide +kernel)) ggX10_readsCloud_X10_goes
set_option maxRecDepth 20000 in
theorem ggX10_readsCloud_X10_number : GoodIn wsX10_readsCloud wsX10_number := goodIn_ca (goodIn_r _ [36, 37, 38, 39, 6, 40, 18, 2, 41, 42, 43, 44, 17, 3, 4, 5, 7, 8, 9, 23, 24, 25, 10, 11, 12, 13, 14, 15, 16, 19, 20, 21, 22, 26, 27, 28, 29, 30, 31, 32, 45, 46, 47, 48, 49, 50, 51, 52, 53, 54, 55, 56, 57, 58, 59, 60, 61, 62, 63, 64, 65, 66] (by decide +kernel) (by decide +kernel)) (goodIn_sub (fun _ h => List.mem_cons_of_mem _ (List.mem_append_right _ h)) (by decide +kernel))
set_option maxRecDepth 20000 in
theorem gX10_readsCloud_X10_number : GoodIn wsX10_readsCloud (wsV RX10 115 RX10 yX10_number wsX10_number) := goodIn_app (goodIn_of _ (by decide +kernel)) ggX10_readsCloud_X10_number
theorem dX10_readsCloud_0 : decode cX10_readsCloud 0 = .ok (.aload_n 0, 1) := by decide +kernel
theorem dX10_readsCloud_1 : decode cX10_readsCloud 1 = .ok (.getfield 9, 3) := by decide +kernel
theorem dX10_readsCloud_4 : decode cX10_readsCloud 4 = .ok (.bipush 24, 2) := by decide +kernel
theorem dX10_readsCloud_6 : decode cX10_readsCloud 6 = .ok (.iaload, 1) := by decide +kernel
theorem dX10_readsCloud_7 : decode cX10_readsCloud 7 = .ok (.iconst 4, 1) := by decide +kernel
theorem dX10_readsCloud_8 : decode cX10_readsCloud 8 = .ok (.if_icmp .ne 8, 3) := by decide +kernel
theorem dX10_readsCloud_11 : decode cX10_readsCloud 11 = .ok (.aload_n 0, 1) := by decide +kernel
theorem dX10_readsCloud_12 : decode cX10_readsCloud 12 = .ok (.iconst 4, 1) := by decide +kernel
theorem dX10_readsCloud_13 : decode cX10_readsCloud 13 = .ok (.invokevirtual 105, 3) := by decide +kernel
theorem dX10_readsCloud_16 : decode cX10_readsCloud 16 = .ok (.aload_n 0, 1) := by decide +kernel
theorem dX10_readsCloud_17 : decode cX10_readsCloud 17 = .ok (.invokevirtual 112, 3) := by decide +kernel
theorem dX10_readsCloud_20 : decode cX10_readsCloud 20 = .ok (.aload_n 0, 1) := by decide +kernel
theorem dX10_readsCloud_21 : decode cX10_readsCloud 21 = .ok (.iconst 0, 1) := by decide +kernel
theorem dX10_readsCloud_22 : decode cX10_readsCloud 22 = .ok (.sipush 159, 3) := by decide +kernel
theorem dX10_readsCloud_25 : decode cX10_readsCloud 25 = .ok (.invokevirtual 115, 3) := by decide +kernel
theorem dX10_readsCloud_28 : decode cX10_readsCloud 28 = .ok (.istore_n 1, 1) := by decide +kernel
theorem dX10_readsCloud_29 : decode cX10_readsCloud 29 = .ok (.aload_n 0, 1) := by decide +kernel
theorem dX10_readsCloud_30 : decode cX10_readsCloud 30 = .ok (.iload_n 1, 1) := by decide +kernel
theorem dX10_readsCloud_31 : decode cX10_readsCloud 31 = .ok (.sipush 159, 3) := by decide +kernel
theorem dX10_readsCloud_34 : decode cX10_readsCloud 34 = .ok (.invokevirtual 115, 3) := by decide +kernel
theorem dX10_readsCloud_37 : decode cX10_readsCloud 37 = .ok (.istore_n 2, 1) := by decide +kernel
theorem dX10_readsCloud_38 : decode cX10_readsCloud 38 = .ok (.aload_n 0, 1) := by decide +kernel
theorem dX10_readsCloud_39 : decode cX10_readsCloud 39 = .ok (.getfield 59, 3) := by decide +kernel
theorem dX10_readsCloud_42 : decode cX10_readsCloud 42 = .ok (.ifCond .le 4, 3) := by decide +kernel
theorem dX10_readsCloud_45 : decode cX10_readsCloud 45 = .ok (.return_, 1) := by decide +kernel
theorem dX10_readsCloud_46 : decode cX10_readsCloud 46 = .ok (.aload_n 0, 1) := by decide +kernel
theorem dX10_readsCloud_47 : decode cX10_readsCloud 47 = .ok (.getfield 9, 3) := by decide +kernel
theorem dX10_readsCloud_50 : decode cX10_readsCloud 50 = .ok (.bipush 46, 2) := by decide +kernel
theorem dX10_readsCloud_52 : decode cX10_readsCloud 52 = .ok (.iconst 2, 1) := by decide +kernel
theorem dX10_readsCloud_53 : decode cX10_readsCloud 53 = .ok (.aload_n 0, 1) := by decide +kernel
theorem dX10_readsCloud_54 : decode cX10_readsCloud 54 = .ok (.getfield 9, 3) := by decide +kernel
theorem dX10_readsCloud_57 : decode cX10_readsCloud 57 = .ok (.bipush 24, 2) := by decide +kernel
theorem dX10_readsCloud_59 : decode cX10_readsCloud 59 = .ok (.iaload, 1) := by decide +kernel
theorem dX10_readsCloud_60 : decode cX10_readsCloud 60 = .ok (.imul, 1) := by decide +kernel
theorem dX10_readsCloud_61 : decode cX10_readsCloud 61 = .ok (.iadd, 1) := by decide +kernel
theorem dX10_readsCloud_62 : decode cX10_readsCloud 62 = .ok (.iload_n 1, 1) := by decide +kernel
theorem dX10_readsCloud_63 : decode cX10_readsCloud 63 = .ok (.iastore, 1) := by decide +kernel
theorem dX10_readsCloud_64 : decode cX10_readsCloud 64 = .ok (.aload_n 0, 1) := by decide +kernel
theorem dX10_readsCloud_65 : decode cX10_readsCloud 65 = .ok (.getfield 9, 3) := by decide +kernel
theorem dX10_readsCloud_68 : decode cX10_readsCloud 68 = .ok (.bipush 46, 2) := by decide +kernel
theorem dX10_readsCloud_70 : decode cX10_readsCloud 70 = .ok (.iconst 2, 1) := by decide +kernel
theorem dX10_readsCloud_71 : decode cX10_readsCloud 71 = .ok (.aload_n 0, 1) := by decide +kernel
theorem dX10_readsCloud_72 : decode cX10_readsCloud 72 = .ok (.getfield 9, 3) := by decide +kernel
theorem dX10_readsCloud_75 : decode cX10_readsCloud 75 = .ok (.bipush 24, 2) := by decide +kernel
theorem dX10_readsCloud_77 : decode cX10_readsCloud 77 = .ok (.iaload, 1) := by decide +kernel
theorem dX10_readsCloud_78 : decode cX10_readsCloud 78 = .ok (.imul, 1) := by decide +kernel
theorem dX10_readsCloud_79 : decode cX10_readsCloud 79 = .ok (.iadd, 1) := by decide +kernel
theorem dX10_readsCloud_80 : decode cX10_readsCloud 80 = .ok (.iconst 1, 1) := by decide +kernel
theorem dX10_readsCloud_81 : decode cX10_readsCloud 81 = .ok (.iadd, 1) := by decide +kernel
theorem dX10_readsCloud_82 : decode cX10_readsCloud 82 = .ok (.iload_n 2, 1) := by decide +kernel
theorem dX10_readsCloud_83 : decode cX10_readsCloud 83 = .ok (.iastore, 1) := by decide +kernel
theorem dX10_readsCloud_84 : decode cX10_readsCloud 84 = .ok (.aload_n 0, 1) := by decide +kernel
theorem dX10_readsCloud_85 : decode cX10_readsCloud 85 = .ok (.getfield 9, 3) := by decide +kernel
theorem dX10_readsCloud_88 : decode cX10_readsCloud 88 = .ok (.bipush 24, 2) := by decide +kernel
theorem dX10_readsCloud_90 : decode cX10_readsCloud 90 = .ok (.dup2, 1) := by decide +kernel
theorem dX10_readsCloud_91 : decode cX10_readsCloud 91 = .ok (.iaload, 1) := by decide +kernel
theorem dX10_readsCloud_92 : decode cX10_readsCloud 92 = .ok (.iconst 1, 1) := by decide +kernel
theorem dX10_readsCloud_93 : decode cX10_readsCloud 93 = .ok (.iadd, 1) := by decide +kernel
theorem dX10_readsCloud_94 : decode cX10_readsCloud 94 = .ok (.iastore, 1) := by decide +kernel
theorem dX10_readsCloud_95 : decode cX10_readsCloud 95 = .ok (.return_, 1) := by decide +kernel
set_option maxRecDepth 20000 in
theorem ggX10_canDo_X10_isEmpty : GoodIn wsX10_canDo wsX10_isEmpty := goodIn_ca (goodIn_r _ [6, 1, 11, 12, 13, 14, 15, 16, 17, 18, 19, 20, 21, 22, 23, 24, 25, 26, 27, 28, 29, 30, 31, 32] (by decide +kernel) (by decide +kernel)) (goodIn_sub (fun _ h => List.mem_cons_of_mem _ (List.mem_append_right _ h)) (by decide +kernel))
set_option maxRecDepth 20000 in
theorem gX10_canDo_X10_isEmpty : GoodIn wsX10_canDo (wsV RX10 142 RX10 yX10_isEmpty wsX10_isEmpty) := goodIn_app (goodIn_of _ (by decide +kernel)) ggX10_canDo_X10_isEmpty
set_option maxRecDepth 20000 in
theorem ggX10_canDo_X10_isDry : GoodIn wsX10_canDo wsX10_isDry := goodIn_ca (goodIn_r _ [10, 1, 11, 12, 13, 14, 15, 16, 17, 18, 19, 20, 21, 22, 23, 24, 25, 26, 27, 28, 29, 30, 31, 32] (by decide +kernel) (by decide +kernel)) (goodIn_sub (fun _ h => List.mem_cons_of_mem _ (List.mem_append_right _ h)) (by decide +kernel))
set_option maxRecDepth 20000 in
theorem gX10_canDo_X10_isDry : GoodIn wsX10_canDo (wsV RX10 145 RX10 yX10_isDry wsX10_isDry) := goodIn_app (goodIn_of _ (by decide +kernel)) ggX10_canDo_X10_isDry
theorem dX10_canDo_0 : decode cX10_canDo 0 = .ok (.iload_n 1, 1) := by decide +kernel
theorem dX10_canDo_1 : decode cX10_canDo 1 = .ok (.lookupswitch 47 #[(0, 27), (1, 33)], 27) := by decide +kernel
theorem dX10_canDo_28 : decode cX10_canDo 28 = .ok (.aload_n 0, 1) := by decide +kernel
theorem dX10_canDo_29 : decode cX10_canDo 29 = .ok (.iload_n 2, 1) := by decide +kernel
theorem dX10_canDo_30 : decode cX10_canDo 30 = .ok (.invokevirtual 142, 3) := by decide +kernel
theorem dX10_canDo_33 : decode cX10_canDo 33 = .ok (.ireturn, 1) := by decide +kernel
theorem dX10_canDo_34 : decode cX10_canDo 34 = .ok (.aload_n 0, 1) := by decide +kernel
theorem dX10_canDo_35 : decode cX10_canDo 35 = .ok (.iload_n 2, 1) := by decide +kernel
theorem dX10_canDo_36 : decode cX10_canDo 36 = .ok (.invokevirtual 145, 3) := by decide +kernel
theorem dX10_canDo_39 : decode cX10_canDo 39 = .ok (.ifCond .ne 7, 3) := by decide +kernel
theorem dX10_canDo_42 : decode cX10_canDo 42 = .ok (.iconst 1, 1) := by decide +kernel
theorem dX10_canDo_43 : decode cX10_canDo 43 = .ok (.goto 4, 3) := by decide +kernel
theorem dX10_canDo_46 : decode cX10_canDo 46 = .ok (.iconst 0, 1) := by decide +kernel
theorem dX10_canDo_47 : decode cX10_canDo 47 = .ok (.ireturn, 1) := by decide +kernel
theorem dX10_canDo_48 : decode cX10_canDo 48 = .ok (.aload_n 0, 1) := by decide +kernel
theorem dX10_canDo_49 : decode cX10_canDo 49 = .ok (.getfield 9, 3) := by decide +kernel
theorem dX10_canDo_52 : decode cX10_canDo 52 = .ok (.sipush 164, 3) := by decide +kernel
theorem dX10_canDo_55 : decode cX10_canDo 55 = .ok (.iload_n 2, 1) := by decide +kernel
theorem dX10_canDo_56 : decode cX10_canDo 56 = .ok (.iadd, 1) := by decide +kernel
theorem dX10_canDo_57 : decode cX10_canDo 57 = .ok (.iaload, 1) := by decide +kernel
theorem dX10_canDo_58 : decode cX10_canDo 58 = .ok (.ifCond .ne 7, 3) := by decide +kernel
theorem dX10_canDo_61 : decode cX10_canDo 61 = .ok (.iconst 1, 1) := by decide +kernel
theorem dX10_canDo_62 : decode cX10_canDo 62 = .ok (.goto 4, 3) := by decide +kernel
theorem dX10_canDo_65 : decode cX10_canDo 65 = .ok (.iconst 0, 1) := by decide +kernel
theorem dX10_canDo_66 : decode cX10_canDo 66 = .ok (.ireturn, 1) := by decide +kernel
set_option maxRecDepth 20000 in
theorem ggX10_does_X10_laysRug : GoodIn wsX10_does wsX10_laysRug := goodIn_ca (goodIn_r _ [6, 1, 7, 8, 9, 10, 5, 11, 12, 13, 14, 15, 16, 17, 18, 19, 20, 21, 22, 23, 24, 25, 26, 27, 28, 29, 30, 31, 32, 33, 34, 35] (by decide +kernel) (by decide +kernel)) (goodIn_sub (fun _ h => List.mem_cons_of_mem _ (List.mem_append_right _ h)) (by decide +kernel))
set_option maxRecDepth 20000 in
theorem gX10_does_X10_laysRug : GoodIn wsX10_does (wsV RX10 148 RX10 yX10_laysRug wsX10_laysRug) := goodIn_app (goodIn_of _ (by decide +kernel)) ggX10_does_X10_laysRug
theorem dX10_does_0 : decode cX10_does 0 = .ok (.iload_n 1, 1) := by decide +kernel
theorem dX10_does_1 : decode cX10_does 1 = .ok (.ifCond .ne 16, 3) := by decide +kernel
theorem dX10_does_4 : decode cX10_does 4 = .ok (.aload_n 0, 1) := by decide +kernel
theorem dX10_does_5 : decode cX10_does 5 = .ok (.getfield 9, 3) := by decide +kernel
theorem dX10_does_8 : decode cX10_does 8 = .ok (.bipush 84, 2) := by decide +kernel
theorem dX10_does_10 : decode cX10_does 10 = .ok (.iload_n 2, 1) := by decide +kernel
theorem dX10_does_11 : decode cX10_does 11 = .ok (.iadd, 1) := by decide +kernel
theorem dX10_does_12 : decode cX10_does 12 = .ok (.iconst 1, 1) := by decide +kernel
theorem dX10_does_13 : decode cX10_does 13 = .ok (.iastore, 1) := by decide +kernel
theorem dX10_does_14 : decode cX10_does 14 = .ok (.goto 27, 3) := by decide +kernel
theorem dX10_does_17 : decode cX10_does 17 = .ok (.iload_n 1, 1) := by decide +kernel
theorem dX10_does_18 : decode cX10_does 18 = .ok (.iconst 1, 1) := by decide +kernel
theorem dX10_does_19 : decode cX10_does 19 = .ok (.if_icmp .ne 17, 3) := by decide +kernel
theorem dX10_does_22 : decode cX10_does 22 = .ok (.aload_n 0, 1) := by decide +kernel
theorem dX10_does_23 : decode cX10_does 23 = .ok (.getfield 9, 3) := by decide +kernel
theorem dX10_does_26 : decode cX10_does 26 = .ok (.sipush 244, 3) := by decide +kernel
theorem dX10_does_29 : decode cX10_does 29 = .ok (.iload_n 2, 1) := by decide +kernel
theorem dX10_does_30 : decode cX10_does 30 = .ok (.iadd, 1) := by decide +kernel
theorem dX10_does_31 : decode cX10_does 31 = .ok (.iconst 0, 1) := by decide +kernel
theorem dX10_does_32 : decode cX10_does 32 = .ok (.iastore, 1) := by decide +kernel
theorem dX10_does_33 : decode cX10_does 33 = .ok (.goto 8, 3) := by decide +kernel
theorem dX10_does_36 : decode cX10_does 36 = .ok (.aload_n 0, 1) := by decide +kernel
theorem dX10_does_37 : decode cX10_does 37 = .ok (.iload_n 2, 1) := by decide +kernel
theorem dX10_does_38 : decode cX10_does 38 = .ok (.invokevirtual 148, 3) := by decide +kernel
theorem dX10_does_41 : decode cX10_does 41 = .ok (.return_, 1) := by decide +kernel
set_option maxRecDepth 20000 in
theorem ggX10_laysRug_X10_faults : GoodIn wsX10_laysRug wsX10_faults := goodIn_r _ [7, 2, 8, 9, 10, 11, 12, 13, 14, 15, 16, 17, 18, 19, 20, 21, 22, 23, 24, 25, 26, 27, 28, 29, 30, 31] (by decide +kernel) (by decide +kernel)
set_option maxRecDepth 20000 in
theorem gX10_laysRug_X10_faults : GoodIn wsX10_laysRug (wsV RX10 105 RX10 yX10_faults wsX10_faults) := goodIn_app (goodIn_of _ (by decide +kernel)) ggX10_laysRug_X10_faults
theorem dX10_laysRug_0 : decode cX10_laysRug 0 = .ok (.aload_n 0, 1) := by decide +kernel
theorem dX10_laysRug_1 : decode cX10_laysRug 1 = .ok (.getfield 9, 3) := by decide +kernel
theorem dX10_laysRug_4 : decode cX10_laysRug 4 = .ok (.bipush 25, 2) := by decide +kernel
theorem dX10_laysRug_6 : decode cX10_laysRug 6 = .ok (.iaload, 1) := by decide +kernel
theorem dX10_laysRug_7 : decode cX10_laysRug 7 = .ok (.bipush 6, 2) := by decide +kernel
theorem dX10_laysRug_9 : decode cX10_laysRug 9 = .ok (.if_icmp .ne 8, 3) := by decide +kernel
theorem dX10_laysRug_12 : decode cX10_laysRug 12 = .ok (.aload_n 0, 1) := by decide +kernel
theorem dX10_laysRug_13 : decode cX10_laysRug 13 = .ok (.iconst 4, 1) := by decide +kernel
theorem dX10_laysRug_14 : decode cX10_laysRug 14 = .ok (.invokevirtual 105, 3) := by decide +kernel
theorem dX10_laysRug_17 : decode cX10_laysRug 17 = .ok (.aload_n 0, 1) := by decide +kernel
theorem dX10_laysRug_18 : decode cX10_laysRug 18 = .ok (.getfield 59, 3) := by decide +kernel
theorem dX10_laysRug_21 : decode cX10_laysRug 21 = .ok (.ifCond .le 4, 3) := by decide +kernel
theorem dX10_laysRug_24 : decode cX10_laysRug 24 = .ok (.return_, 1) := by decide +kernel
theorem dX10_laysRug_25 : decode cX10_laysRug 25 = .ok (.aload_n 0, 1) := by decide +kernel
theorem dX10_laysRug_26 : decode cX10_laysRug 26 = .ok (.getfield 9, 3) := by decide +kernel
theorem dX10_laysRug_29 : decode cX10_laysRug 29 = .ok (.sipush 164, 3) := by decide +kernel
theorem dX10_laysRug_32 : decode cX10_laysRug 32 = .ok (.iload_n 1, 1) := by decide +kernel
theorem dX10_laysRug_33 : decode cX10_laysRug 33 = .ok (.iadd, 1) := by decide +kernel
theorem dX10_laysRug_34 : decode cX10_laysRug 34 = .ok (.iconst 1, 1) := by decide +kernel
theorem dX10_laysRug_35 : decode cX10_laysRug 35 = .ok (.iastore, 1) := by decide +kernel
theorem dX10_laysRug_36 : decode cX10_laysRug 36 = .ok (.aload_n 0, 1) := by decide +kernel
theorem dX10_laysRug_37 : decode cX10_laysRug 37 = .ok (.getfield 9, 3) := by decide +kernel
theorem dX10_laysRug_40 : decode cX10_laysRug 40 = .ok (.bipush 25, 2) := by decide +kernel
theorem dX10_laysRug_42 : decode cX10_laysRug 42 = .ok (.dup2, 1) := by decide +kernel
theorem dX10_laysRug_43 : decode cX10_laysRug 43 = .ok (.iaload, 1) := by decide +kernel
theorem dX10_laysRug_44 : decode cX10_laysRug 44 = .ok (.iconst 1, 1) := by decide +kernel
theorem dX10_laysRug_45 : decode cX10_laysRug 45 = .ok (.iadd, 1) := by decide +kernel
theorem dX10_laysRug_46 : decode cX10_laysRug 46 = .ok (.iastore, 1) := by decide +kernel
theorem dX10_laysRug_47 : decode cX10_laysRug 47 = .ok (.return_, 1) := by decide +kernel
set_option maxRecDepth 20000 in
theorem ggX10_doesTile_X10_tiles : GoodIn wsX10_doesTile wsX10_tiles := goodIn_ca (goodIn_r _ [6, 7, 65, 66, 67, 68, 69, 70, 71, 72, 73, 74, 75, 76, 77, 78, 79, 80, 81, 82, 83, 84, 85, 86] (by decide +kernel) (by decide +kernel)) (goodIn_sub (fun _ h => List.mem_cons_of_mem _ (List.mem_append_right _ h)) (by decide +kernel))
set_option maxRecDepth 20000 in
theorem gX10_doesTile_X10_tiles : GoodIn wsX10_doesTile (wsV RX10 136 RX10 yX10_tiles wsX10_tiles) := goodIn_app (goodIn_of _ (by decide +kernel)) ggX10_doesTile_X10_tiles
set_option maxRecDepth 20000 in
theorem ggX10_doesTile_X10_numberHere : GoodIn wsX10_doesTile wsX10_numberHere := goodIn_r _ [11, 12, 1, 13, 14, 15, 5, 16, 17, 18, 19, 20, 21, 22, 23, 24, 25, 26, 65, 66, 67, 68, 69, 70, 71, 72, 73, 74, 75, 76, 77, 78, 79, 80, 81, 82, 83, 84, 85, 86] (by decide +kernel) (by decide +kernel)
set_option maxRecDepth 20000 in
theorem gX10_doesTile_X10_numberHere : GoodIn wsX10_doesTile (wsV RX10 108 RX10 yX10_numberHere wsX10_numberHere) := goodIn_app (goodIn_of _ (by decide +kernel)) ggX10_doesTile_X10_numberHere
set_option maxRecDepth 20000 in
theorem ggX10_doesTile_X10_canDo : GoodIn wsX10_doesTile wsX10_canDo := goodIn_ca (goodIn_r _ [30, 7, 31, 32, 33, 5, 34, 35, 36, 37, 38, 65, 66, 67, 68, 69, 70, 71, 72, 73, 74, 75, 76, 77, 78, 79, 80, 81, 82, 83, 84, 85, 86] (by decide +kernel) (by decide +kernel)) (goodIn_sub (fun _ h => List.mem_cons_of_mem _ (List.mem_append_right _ h)) (by decide +kernel))
set_option maxRecDepth 20000 in
theorem gX10_doesTile_X10_canDo : GoodIn wsX10_doesTile (wsV RX10 151 RX10 yX10_canDo wsX10_canDo) := goodIn_app (goodIn_of _ (by decide +kernel)) ggX10_doesTile_X10_canDo
set_option maxRecDepth 20000 in
theorem ggX10_doesTile_X10_faults : GoodIn wsX10_doesTile wsX10_faults := goodIn_r _ [21, 1, 22, 23, 65, 66, 67, 68, 69, 70, 71, 72, 73, 74, 75, 76, 77, 78, 79, 80, 81, 82, 83, 84, 85, 86] (by decide +kernel) (by decide +kernel)
set_option maxRecDepth 20000 in
theorem gX10_doesTile_X10_faults : GoodIn wsX10_doesTile (wsV RX10 105 RX10 yX10_faults wsX10_faults) := goodIn_app (goodIn_of _ (by decide +kernel)) ggX10_doesTile_X10_faults
set_option maxRecDepth 20000 in
theorem ggX10_doesTile_X10_does : GoodIn wsX10_doesTile wsX10_does := goodIn_ca (goodIn_r _ [42, 7, 43, 44, 45, 5, 46, 1, 18, 19, 20, 21, 22, 23, 65, 66, 67, 68, 69, 70, 71, 72, 73, 74, 75, 76, 77, 78, 79, 80, 81, 82, 83, 84, 85, 86] (by decide +kernel) (by decide +kernel)) (goodIn_sub (fun _ h => List.mem_cons_of_mem _ (List.mem_append_right _ h)) (by decide +kernel))
set_option maxRecDepth 20000 in
theorem gX10_doesTile_X10_does : GoodIn wsX10_doesTile (wsV RX10 155 RX10 yX10_does wsX10_does) := goodIn_app (goodIn_of _ (by decide +kernel)) ggX10_doesTile_X10_does
set_option maxRecDepth 20000 in
theorem ggX10_doesTile_X10_goes : GoodIn wsX10_doesTile wsX10_goes := goodIn_ca (goodIn_r _ [50, 1, 51, 52, 53, 22, 17, 12, 54, 55, 56, 5, 57, 24, 25, 26, 58, 59, 60, 61, 62, 63, 64, 65, 66, 67, 68, 69, 70, 71, 72, 73, 74, 75, 76, 77, 78, 79, 80, 81, 82, 83, 84, 85, 86] (by decide +kernel) (by decide +kernel)) (goodIn_sub (fun _ h => List.mem_cons_of_mem _ (List.mem_append_right _ h)) (by decide +kernel))
set_option maxRecDepth 20000 in
theorem gX10_doesTile_X10_goes : GoodIn wsX10_doesTile (wsV RX10 112 RX10 yX10_goes wsX10_goes) := goodIn_app (goodIn_of _ (by decide +kernel)) ggX10_doesTile_X10_goes
theorem dX10_doesTile_0 : decode cX10_doesTile 0 = .ok (.aload_n 0, 1) := by decide +kernel
theorem dX10_doesTile_1 : decode cX10_doesTile 1 = .ok (.iconst 0, 1) := by decide +kernel
theorem dX10_doesTile_2 : decode cX10_doesTile 2 = .ok (.aload_n 0, 1) := by decide +kernel
theorem dX10_doesTile_3 : decode cX10_doesTile 3 = .ok (.invokevirtual 136, 3) := by decide +kernel
theorem dX10_doesTile_6 : decode cX10_doesTile 6 = .ok (.iconst 1, 1) := by decide +kernel
theorem dX10_doesTile_7 : decode cX10_doesTile 7 = .ok (.isub, 1) := by decide +kernel
theorem dX10_doesTile_8 : decode cX10_doesTile 8 = .ok (.invokevirtual 108, 3) := by decide +kernel
theorem dX10_doesTile_11 : decode cX10_doesTile 11 = .ok (.istore_n 2, 1) := by decide +kernel
theorem dX10_doesTile_12 : decode cX10_doesTile 12 = .ok (.aload_n 0, 1) := by decide +kernel
theorem dX10_doesTile_13 : decode cX10_doesTile 13 = .ok (.getfield 59, 3) := by decide +kernel
theorem dX10_doesTile_16 : decode cX10_doesTile 16 = .ok (.ifCond .ne 17, 3) := by decide +kernel
theorem dX10_doesTile_19 : decode cX10_doesTile 19 = .ok (.aload_n 0, 1) := by decide +kernel
theorem dX10_doesTile_20 : decode cX10_doesTile 20 = .ok (.iload_n 1, 1) := by decide +kernel
theorem dX10_doesTile_21 : decode cX10_doesTile 21 = .ok (.iload_n 2, 1) := by decide +kernel
theorem dX10_doesTile_22 : decode cX10_doesTile 22 = .ok (.invokevirtual 151, 3) := by decide +kernel
theorem dX10_doesTile_25 : decode cX10_doesTile 25 = .ok (.ifCond .ne 8, 3) := by decide +kernel
theorem dX10_doesTile_28 : decode cX10_doesTile 28 = .ok (.aload_n 0, 1) := by decide +kernel
theorem dX10_doesTile_29 : decode cX10_doesTile 29 = .ok (.iconst 3, 1) := by decide +kernel
theorem dX10_doesTile_30 : decode cX10_doesTile 30 = .ok (.invokevirtual 105, 3) := by decide +kernel
theorem dX10_doesTile_33 : decode cX10_doesTile 33 = .ok (.aload_n 0, 1) := by decide +kernel
theorem dX10_doesTile_34 : decode cX10_doesTile 34 = .ok (.getfield 59, 3) := by decide +kernel
theorem dX10_doesTile_37 : decode cX10_doesTile 37 = .ok (.ifCond .ne 9, 3) := by decide +kernel
theorem dX10_doesTile_40 : decode cX10_doesTile 40 = .ok (.aload_n 0, 1) := by decide +kernel
theorem dX10_doesTile_41 : decode cX10_doesTile 41 = .ok (.iload_n 1, 1) := by decide +kernel
theorem dX10_doesTile_42 : decode cX10_doesTile 42 = .ok (.iload_n 2, 1) := by decide +kernel
theorem dX10_doesTile_43 : decode cX10_doesTile 43 = .ok (.invokevirtual 155, 3) := by decide +kernel
theorem dX10_doesTile_46 : decode cX10_doesTile 46 = .ok (.aload_n 0, 1) := by decide +kernel
theorem dX10_doesTile_47 : decode cX10_doesTile 47 = .ok (.invokevirtual 112, 3) := by decide +kernel
theorem dX10_doesTile_50 : decode cX10_doesTile 50 = .ok (.return_, 1) := by decide +kernel
set_option maxRecDepth 20000 in
theorem ggX10_doesRow_X10_goes : GoodIn wsX10_doesRow wsX10_goes := goodIn_ca (goodIn_r _ [7, 2, 8, 9, 10, 11, 12, 13, 14, 15, 16, 6, 17, 18, 19, 20, 21, 22, 23, 24, 25, 26, 27, 65, 66, 67, 68, 69, 70, 71, 72, 73, 74, 75, 76, 77, 78, 79, 80, 81, 82, 83, 84, 85, 86] (by decide +kernel) (by decide +kernel)) (goodIn_sub (fun _ h => List.mem_cons_of_mem _ (List.mem_append_right _ h)) (by decide +kernel))
set_option maxRecDepth 20000 in
theorem gX10_doesRow_X10_goes : GoodIn wsX10_doesRow (wsV RX10 112 RX10 yX10_goes wsX10_goes) := goodIn_app (goodIn_of _ (by decide +kernel)) ggX10_doesRow_X10_goes
set_option maxRecDepth 20000 in
theorem ggX10_doesRow_X10_numberHere : GoodIn wsX10_doesRow wsX10_numberHere := goodIn_r _ [31, 13, 2, 32, 33, 34, 6, 35, 12, 36, 37, 38, 39, 11, 40, 18, 19, 20, 65, 66, 67, 68, 69, 70, 71, 72, 73, 74, 75, 76, 77, 78, 79, 80, 81, 82, 83, 84, 85, 86] (by decide +kernel) (by decide +kernel)
set_option maxRecDepth 20000 in
theorem gX10_doesRow_X10_numberHere : GoodIn wsX10_doesRow (wsV RX10 108 RX10 yX10_numberHere wsX10_numberHere) := goodIn_app (goodIn_of _ (by decide +kernel)) ggX10_doesRow_X10_numberHere
set_option maxRecDepth 20000 in
theorem ggX10_doesRow_X10_doesIfCan : GoodIn wsX10_doesRow wsX10_doesIfCan := goodIn_ca (goodIn_r _ [44, 45, 46, 47, 6, 48, 1, 49, 50, 51, 52, 53, 54, 55, 56, 57, 58, 59, 60, 61, 62, 63, 64, 2, 36, 37, 38, 39, 11, 40, 65, 66, 67, 68, 69, 70, 71, 72, 73, 74, 75, 76, 77, 78, 79, 80, 81, 82, 83, 84, 85, 86] (by decide +kernel) (by decide +kernel)) (goodIn_sub (fun _ h => List.mem_cons_of_mem _ (List.mem_append_right _ h)) (by decide +kernel))
set_option maxRecDepth 20000 in
theorem gX10_doesRow_X10_doesIfCan : GoodIn wsX10_doesRow (wsV RX10 159 RX10 yX10_doesIfCan wsX10_doesIfCan) := goodIn_app (goodIn_of _ (by decide +kernel)) ggX10_doesRow_X10_doesIfCan
theorem dX10_doesRow_0 : decode cX10_doesRow 0 = .ok (.aload_n 0, 1) := by decide +kernel
theorem dX10_doesRow_1 : decode cX10_doesRow 1 = .ok (.invokevirtual 112, 3) := by decide +kernel
theorem dX10_doesRow_4 : decode cX10_doesRow 4 = .ok (.aload_n 0, 1) := by decide +kernel
theorem dX10_doesRow_5 : decode cX10_doesRow 5 = .ok (.iconst 0, 1) := by decide +kernel
theorem dX10_doesRow_6 : decode cX10_doesRow 6 = .ok (.aload_n 0, 1) := by decide +kernel
theorem dX10_doesRow_7 : decode cX10_doesRow 7 = .ok (.getfield 9, 3) := by decide +kernel
theorem dX10_doesRow_10 : decode cX10_doesRow 10 = .ok (.iconst 0, 1) := by decide +kernel
theorem dX10_doesRow_11 : decode cX10_doesRow 11 = .ok (.iaload, 1) := by decide +kernel
theorem dX10_doesRow_12 : decode cX10_doesRow 12 = .ok (.iconst 1, 1) := by decide +kernel
theorem dX10_doesRow_13 : decode cX10_doesRow 13 = .ok (.isub, 1) := by decide +kernel
theorem dX10_doesRow_14 : decode cX10_doesRow 14 = .ok (.invokevirtual 108, 3) := by decide +kernel
theorem dX10_doesRow_17 : decode cX10_doesRow 17 = .ok (.istore_n 2, 1) := by decide +kernel
theorem dX10_doesRow_18 : decode cX10_doesRow 18 = .ok (.iconst 0, 1) := by decide +kernel
theorem dX10_doesRow_19 : decode cX10_doesRow 19 = .ok (.istore_n 3, 1) := by decide +kernel
theorem dX10_doesRow_20 : decode cX10_doesRow 20 = .ok (.iload_n 3, 1) := by decide +kernel
theorem dX10_doesRow_21 : decode cX10_doesRow 21 = .ok (.aload_n 0, 1) := by decide +kernel
theorem dX10_doesRow_22 : decode cX10_doesRow 22 = .ok (.getfield 9, 3) := by decide +kernel
theorem dX10_doesRow_25 : decode cX10_doesRow 25 = .ok (.iconst 1, 1) := by decide +kernel
theorem dX10_doesRow_26 : decode cX10_doesRow 26 = .ok (.iaload, 1) := by decide +kernel
theorem dX10_doesRow_27 : decode cX10_doesRow 27 = .ok (.if_icmp .ge 31, 3) := by decide +kernel
theorem dX10_doesRow_30 : decode cX10_doesRow 30 = .ok (.aload_n 0, 1) := by decide +kernel
theorem dX10_doesRow_31 : decode cX10_doesRow 31 = .ok (.getfield 59, 3) := by decide +kernel
theorem dX10_doesRow_34 : decode cX10_doesRow 34 = .ok (.ifCond .ne 24, 3) := by decide +kernel
theorem dX10_doesRow_37 : decode cX10_doesRow 37 = .ok (.aload_n 0, 1) := by decide +kernel
theorem dX10_doesRow_38 : decode cX10_doesRow 38 = .ok (.iload_n 1, 1) := by decide +kernel
theorem dX10_doesRow_39 : decode cX10_doesRow 39 = .ok (.iload_n 2, 1) := by decide +kernel
theorem dX10_doesRow_40 : decode cX10_doesRow 40 = .ok (.aload_n 0, 1) := by decide +kernel
theorem dX10_doesRow_41 : decode cX10_doesRow 41 = .ok (.getfield 9, 3) := by decide +kernel
theorem dX10_doesRow_44 : decode cX10_doesRow 44 = .ok (.iconst 1, 1) := by decide +kernel
theorem dX10_doesRow_45 : decode cX10_doesRow 45 = .ok (.iaload, 1) := by decide +kernel
theorem dX10_doesRow_46 : decode cX10_doesRow 46 = .ok (.imul, 1) := by decide +kernel
theorem dX10_doesRow_47 : decode cX10_doesRow 47 = .ok (.iload_n 3, 1) := by decide +kernel
theorem dX10_doesRow_48 : decode cX10_doesRow 48 = .ok (.iadd, 1) := by decide +kernel
theorem dX10_doesRow_49 : decode cX10_doesRow 49 = .ok (.invokevirtual 159, 3) := by decide +kernel
theorem dX10_doesRow_52 : decode cX10_doesRow 52 = .ok (.iinc 3 1, 3) := by decide +kernel
theorem dX10_doesRow_55 : decode cX10_doesRow 55 = .ok (.goto (-35), 3) := by decide +kernel
theorem dX10_doesRow_58 : decode cX10_doesRow 58 = .ok (.aload_n 0, 1) := by decide +kernel
theorem dX10_doesRow_59 : decode cX10_doesRow 59 = .ok (.invokevirtual 112, 3) := by decide +kernel
theorem dX10_doesRow_62 : decode cX10_doesRow 62 = .ok (.return_, 1) := by decide +kernel
set_option maxRecDepth 20000 in
theorem ggX10_doesColumn_X10_goes : GoodIn wsX10_doesColumn wsX10_goes := goodIn_ca (goodIn_r _ [7, 2, 8, 9, 10, 11, 12, 13, 14, 15, 16, 6, 17, 18, 19, 20, 21, 22, 23, 24, 25, 26, 27, 65, 66, 67, 68, 69, 70, 71, 72, 73, 74, 75, 76, 77, 78, 79, 80, 81, 82, 83, 84, 85, 86] (by decide +kernel) (by decide +kernel)) (goodIn_sub (fun _ h => List.mem_cons_of_mem _ (List.mem_append_right _ h)) (by decide +kernel))
set_option maxRecDepth 20000 in
theorem gX10_doesColumn_X10_goes : GoodIn wsX10_doesColumn (wsV RX10 112 RX10 yX10_goes wsX10_goes) := goodIn_app (goodIn_of _ (by decide +kernel)) ggX10_doesColumn_X10_goes
set_option maxRecDepth 20000 in
theorem ggX10_doesColumn_X10_numberHere : GoodIn wsX10_doesColumn wsX10_numberHere := goodIn_r _ [31, 13, 2, 32, 33, 34, 6, 35, 12, 36, 37, 38, 39, 11, 40, 18, 19, 20, 65, 66, 67, 68, 69, 70, 71, 72, 73, 74, 75, 76, 77, 78, 79, 80, 81, 82, 83, 84, 85, 86] (by decide +kernel) (by decide +kernel)
set_option maxRecDepth 20000 in
theorem gX10_doesColumn_X10_numberHere : GoodIn wsX10_doesColumn (wsV RX10 108 RX10 yX10_numberHere wsX10_numberHere) := goodIn_app (goodIn_of _ (by decide +kernel)) ggX10_doesColumn_X10_numberHere
set_option maxRecDepth 20000 in
theorem ggX10_doesColumn_X10_doesIfCan : GoodIn wsX10_doesColumn wsX10_doesIfCan := goodIn_ca (goodIn_r _ [44, 45, 46, 47, 6, 48, 1, 49, 50, 51, 52, 53, 54, 55, 56, 57, 58, 59, 60, 61, 62, 63, 64, 2, 36, 37, 38, 39, 11, 40, 65, 66, 67, 68, 69, 70, 71, 72, 73, 74, 75, 76, 77, 78, 79, 80, 81, 82, 83, 84, 85, 86] (by decide +kernel) (by decide +kernel)) (goodIn_sub (fun _ h => List.mem_cons_of_mem _ (List.mem_append_right _ h)) (by decide +kernel))
set_option maxRecDepth 20000 in
theorem gX10_doesColumn_X10_doesIfCan : GoodIn wsX10_doesColumn (wsV RX10 159 RX10 yX10_doesIfCan wsX10_doesIfCan) := goodIn_app (goodIn_of _ (by decide +kernel)) ggX10_doesColumn_X10_doesIfCan
theorem dX10_doesColumn_0 : decode cX10_doesColumn 0 = .ok (.aload_n 0, 1) := by decide +kernel
theorem dX10_doesColumn_1 : decode cX10_doesColumn 1 = .ok (.invokevirtual 112, 3) := by decide +kernel
theorem dX10_doesColumn_4 : decode cX10_doesColumn 4 = .ok (.aload_n 0, 1) := by decide +kernel
theorem dX10_doesColumn_5 : decode cX10_doesColumn 5 = .ok (.iconst 0, 1) := by decide +kernel
