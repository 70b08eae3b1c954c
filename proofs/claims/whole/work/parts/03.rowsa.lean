set_option maxRecDepth 20000 in
theorem ggX1_init_X8_init : GoodIn wsX1_init wsX8_init := goodIn_r _ [12, 13, 2, 3, 14, 15, 16, 17, 18, 19, 20, 21, 22, 23, 24, 25, 7, 26, 27, 28, 29, 30, 31, 32, 33, 34, 35, 36, 37, 38, 39, 40, 41, 42, 43, 44, 45, 65, 66, 67, 68, 69, 70, 71, 72, 73, 74, 75, 76, 77, 51, 52, 53, 54, 55, 56, 57, 58, 59, 60, 61, 62, 63, 64, 78, 79, 80, 81, 82, 83, 84, 85, 86, 87, 88, 89] (by decide +kernel) (by decide +kernel)
set_option maxRecDepth 20000 in
theorem gX1_init_X8_init_n24 : GoodIn wsX1_init (wsX8_init) := ggX1_init_X8_init
theorem dX1_init_0 : decode cX1_init 0 = .ok (.aload_n 0, 1) := by decide +kernel
theorem dX1_init_1 : decode cX1_init 1 = .ok (.invokespecial 3, 3) := by decide +kernel
theorem dX1_init_4 : decode cX1_init 4 = .ok (.aload_n 0, 1) := by decide +kernel
theorem dX1_init_5 : decode cX1_init 5 = .ok (.bipush 8, 2) := by decide +kernel
theorem dX1_init_7 : decode cX1_init 7 = .ok (.anewarray 9, 3) := by decide +kernel
theorem dX1_init_10 : decode cX1_init 10 = .ok (.putfield 11, 3) := by decide +kernel
theorem dX1_init_13 : decode cX1_init 13 = .ok (.aload_n 0, 1) := by decide +kernel
theorem dX1_init_14 : decode cX1_init 14 = .ok (.iconst 2, 1) := by decide +kernel
theorem dX1_init_15 : decode cX1_init 15 = .ok (.anewarray 9, 3) := by decide +kernel
theorem dX1_init_18 : decode cX1_init 18 = .ok (.putfield 17, 3) := by decide +kernel
theorem dX1_init_21 : decode cX1_init 21 = .ok (.aload_n 0, 1) := by decide +kernel
theorem dX1_init_22 : decode cX1_init 22 = .ok (.iconst 2, 1) := by decide +kernel
theorem dX1_init_23 : decode cX1_init 23 = .ok (.newarray .int, 2) := by decide +kernel
theorem dX1_init_25 : decode cX1_init 25 = .ok (.putfield 20, 3) := by decide +kernel
theorem dX1_init_28 : decode cX1_init 28 = .ok (.iconst 0, 1) := by decide +kernel
theorem dX1_init_29 : decode cX1_init 29 = .ok (.istore_n 1, 1) := by decide +kernel
theorem dX1_init_30 : decode cX1_init 30 = .ok (.iload_n 1, 1) := by decide +kernel
theorem dX1_init_31 : decode cX1_init 31 = .ok (.bipush 8, 2) := by decide +kernel
theorem dX1_init_33 : decode cX1_init 33 = .ok (.if_icmp .ge 22, 3) := by decide +kernel
theorem dX1_init_36 : decode cX1_init 36 = .ok (.aload_n 0, 1) := by decide +kernel
theorem dX1_init_37 : decode cX1_init 37 = .ok (.getfield 11, 3) := by decide +kernel
theorem dX1_init_40 : decode cX1_init 40 = .ok (.iload_n 1, 1) := by decide +kernel
theorem dX1_init_41 : decode cX1_init 41 = .ok (.new 9, 3) := by decide +kernel
theorem dX1_init_44 : decode cX1_init 44 = .ok (.dup, 1) := by decide +kernel
theorem dX1_init_45 : decode cX1_init 45 = .ok (.invokespecial 24, 3) := by decide +kernel
theorem dX1_init_48 : decode cX1_init 48 = .ok (.aastore, 1) := by decide +kernel
theorem dX1_init_49 : decode cX1_init 49 = .ok (.iinc 1 1, 3) := by decide +kernel
theorem dX1_init_52 : decode cX1_init 52 = .ok (.goto (-22), 3) := by decide +kernel
theorem dX1_init_55 : decode cX1_init 55 = .ok (.iconst 0, 1) := by decide +kernel
theorem dX1_init_56 : decode cX1_init 56 = .ok (.istore_n 1, 1) := by decide +kernel
theorem dX1_init_57 : decode cX1_init 57 = .ok (.iload_n 1, 1) := by decide +kernel
theorem dX1_init_58 : decode cX1_init 58 = .ok (.iconst 2, 1) := by decide +kernel
theorem dX1_init_59 : decode cX1_init 59 = .ok (.if_icmp .ge 22, 3) := by decide +kernel
theorem dX1_init_62 : decode cX1_init 62 = .ok (.aload_n 0, 1) := by decide +kernel
theorem dX1_init_63 : decode cX1_init 63 = .ok (.getfield 17, 3) := by decide +kernel
theorem dX1_init_66 : decode cX1_init 66 = .ok (.iload_n 1, 1) := by decide +kernel
theorem dX1_init_67 : decode cX1_init 67 = .ok (.new 9, 3) := by decide +kernel
theorem dX1_init_70 : decode cX1_init 70 = .ok (.dup, 1) := by decide +kernel
theorem dX1_init_71 : decode cX1_init 71 = .ok (.invokespecial 24, 3) := by decide +kernel
theorem dX1_init_74 : decode cX1_init 74 = .ok (.aastore, 1) := by decide +kernel
theorem dX1_init_75 : decode cX1_init 75 = .ok (.iinc 1 1, 3) := by decide +kernel
theorem dX1_init_78 : decode cX1_init 78 = .ok (.goto (-21), 3) := by decide +kernel
theorem dX1_init_81 : decode cX1_init 81 = .ok (.return_, 1) := by decide +kernel
set_option maxRecDepth 20000 in
theorem ggX1_keep_X1_worldAt : GoodIn wsX1_keep wsX1_worldAt := goodIn_r _ [11] (by decide +kernel) (by decide +kernel)
set_option maxRecDepth 20000 in
theorem gX1_keep_X1_worldAt : GoodIn wsX1_keep (va_wsS RX1 29 yX1_worldAt wsX1_worldAt) := goodIn_app (goodIn_of _ (by decide +kernel)) ggX1_keep_X1_worldAt
set_option maxRecDepth 20000 in
theorem ggX1_keep_X8_copyFrom : GoodIn wsX1_keep wsX8_copyFrom := goodIn_r _ [16, 17, 18, 19, 20, 21, 22, 23, 24, 25, 26, 27, 28, 29, 30, 31, 32, 33, 34, 35, 36, 37, 38, 39, 40, 41, 42, 43, 44, 45, 46, 47, 48, 49, 50, 51, 52, 5, 6, 7, 53, 54, 55, 56, 57, 58, 59, 60, 61, 62, 63, 64, 65, 66, 67, 68, 69, 70, 71, 72, 73, 74, 75, 76, 77, 78, 84, 85, 86, 87, 88, 89, 90, 91, 92, 93, 94, 95, 96, 97, 98, 99, 100, 101, 102, 103, 104, 105, 106, 107, 108, 109, 110, 111, 112, 113, 114, 115, 116, 117, 118, 119, 120, 121, 122] (by decide +kernel) (by decide +kernel)
set_option maxRecDepth 20000 in
theorem gX1_keep_X8_copyFrom : GoodIn wsX1_keep (wsV RX1 33 RX8 yX8_copyFrom wsX8_copyFrom) := goodIn_app (goodIn_of _ (by decide +kernel)) ggX1_keep_X8_copyFrom
theorem dX1_keep_0 : decode cX1_keep 0 = .ok (.aload_n 0, 1) := by decide +kernel
theorem dX1_keep_1 : decode cX1_keep 1 = .ok (.getfield 11, 3) := by decide +kernel
theorem dX1_keep_4 : decode cX1_keep 4 = .ok (.aload_n 0, 1) := by decide +kernel
theorem dX1_keep_5 : decode cX1_keep 5 = .ok (.getfield 25, 3) := by decide +kernel
theorem dX1_keep_8 : decode cX1_keep 8 = .ok (.invokestatic 29, 3) := by decide +kernel
theorem dX1_keep_11 : decode cX1_keep 11 = .ok (.astore_n 2, 1) := by decide +kernel
theorem dX1_keep_12 : decode cX1_keep 12 = .ok (.aload_n 2, 1) := by decide +kernel
theorem dX1_keep_13 : decode cX1_keep 13 = .ok (.ifnonnull 4, 3) := by decide +kernel
theorem dX1_keep_16 : decode cX1_keep 16 = .ok (.return_, 1) := by decide +kernel
theorem dX1_keep_17 : decode cX1_keep 17 = .ok (.aload_n 2, 1) := by decide +kernel
theorem dX1_keep_18 : decode cX1_keep 18 = .ok (.aload_n 1, 1) := by decide +kernel
theorem dX1_keep_19 : decode cX1_keep 19 = .ok (.invokevirtual 33, 3) := by decide +kernel
theorem dX1_keep_22 : decode cX1_keep 22 = .ok (.aload_n 0, 1) := by decide +kernel
theorem dX1_keep_23 : decode cX1_keep 23 = .ok (.aload_n 0, 1) := by decide +kernel
theorem dX1_keep_24 : decode cX1_keep 24 = .ok (.getfield 25, 3) := by decide +kernel
theorem dX1_keep_27 : decode cX1_keep 27 = .ok (.iconst 1, 1) := by decide +kernel
theorem dX1_keep_28 : decode cX1_keep 28 = .ok (.iadd, 1) := by decide +kernel
theorem dX1_keep_29 : decode cX1_keep 29 = .ok (.bipush 8, 2) := by decide +kernel
theorem dX1_keep_31 : decode cX1_keep 31 = .ok (.irem, 1) := by decide +kernel
theorem dX1_keep_32 : decode cX1_keep 32 = .ok (.putfield 25, 3) := by decide +kernel
theorem dX1_keep_35 : decode cX1_keep 35 = .ok (.aload_n 0, 1) := by decide +kernel
theorem dX1_keep_36 : decode cX1_keep 36 = .ok (.aload_n 0, 1) := by decide +kernel
theorem dX1_keep_37 : decode cX1_keep 37 = .ok (.getfield 37, 3) := by decide +kernel
theorem dX1_keep_40 : decode cX1_keep 40 = .ok (.iconst 1, 1) := by decide +kernel
theorem dX1_keep_41 : decode cX1_keep 41 = .ok (.iadd, 1) := by decide +kernel
theorem dX1_keep_42 : decode cX1_keep 42 = .ok (.bipush 8, 2) := by decide +kernel
theorem dX1_keep_44 : decode cX1_keep 44 = .ok (.invokestatic 40, 3) := by decide +kernel
theorem dX1_keep_47 : decode cX1_keep 47 = .ok (.putfield 37, 3) := by decide +kernel
theorem dX1_keep_50 : decode cX1_keep 50 = .ok (.return_, 1) := by decide +kernel
set_option maxRecDepth 20000 in
theorem ggX1_takeBack_X1_worldAt : GoodIn wsX1_takeBack wsX1_worldAt := goodIn_r _ [7] (by decide +kernel) (by decide +kernel)
set_option maxRecDepth 20000 in
theorem gX1_takeBack_X1_worldAt : GoodIn wsX1_takeBack (va_wsS RX1 29 yX1_worldAt wsX1_worldAt) := goodIn_app (goodIn_of _ (by decide +kernel)) ggX1_takeBack_X1_worldAt
set_option maxRecDepth 20000 in
theorem ggX1_takeBack_X8_copyFrom : GoodIn wsX1_takeBack wsX8_copyFrom := goodIn_r _ [12, 13, 14, 15, 16, 17, 18, 19, 20, 21, 22, 23, 24, 25, 26, 27, 28, 29, 30, 31, 32, 33, 34, 35, 36, 37, 38, 39, 40, 41, 42, 43, 44, 45, 46, 47, 48, 49, 50, 51, 52, 53, 54, 55, 56, 57, 58, 59, 60, 61, 62, 63, 64, 65, 66, 67, 68, 69, 70, 71, 72, 73, 74, 75, 76, 77, 83, 84, 85, 86, 87, 88, 89, 90, 91, 92, 93, 94, 95, 96, 97, 98, 99, 100, 101, 102, 103, 104, 105, 106, 107, 108, 109, 110, 111, 112, 113, 114, 115, 116, 117, 118, 119, 120, 121] (by decide +kernel) (by decide +kernel)
set_option maxRecDepth 20000 in
theorem gX1_takeBack_X8_copyFrom : GoodIn wsX1_takeBack (wsV RX1 33 RX8 yX8_copyFrom wsX8_copyFrom) := goodIn_app (goodIn_of _ (by decide +kernel)) ggX1_takeBack_X8_copyFrom
theorem dX1_takeBack_0 : decode cX1_takeBack 0 = .ok (.aload_n 0, 1) := by decide +kernel
theorem dX1_takeBack_1 : decode cX1_takeBack 1 = .ok (.getfield 25, 3) := by decide +kernel
theorem dX1_takeBack_4 : decode cX1_takeBack 4 = .ok (.bipush 8, 2) := by decide +kernel
theorem dX1_takeBack_6 : decode cX1_takeBack 6 = .ok (.iadd, 1) := by decide +kernel
theorem dX1_takeBack_7 : decode cX1_takeBack 7 = .ok (.iconst 1, 1) := by decide +kernel
theorem dX1_takeBack_8 : decode cX1_takeBack 8 = .ok (.isub, 1) := by decide +kernel
theorem dX1_takeBack_9 : decode cX1_takeBack 9 = .ok (.bipush 8, 2) := by decide +kernel
theorem dX1_takeBack_11 : decode cX1_takeBack 11 = .ok (.irem, 1) := by decide +kernel
theorem dX1_takeBack_12 : decode cX1_takeBack 12 = .ok (.istore_n 2, 1) := by decide +kernel
theorem dX1_takeBack_13 : decode cX1_takeBack 13 = .ok (.aload_n 0, 1) := by decide +kernel
theorem dX1_takeBack_14 : decode cX1_takeBack 14 = .ok (.getfield 11, 3) := by decide +kernel
theorem dX1_takeBack_17 : decode cX1_takeBack 17 = .ok (.iload_n 2, 1) := by decide +kernel
theorem dX1_takeBack_18 : decode cX1_takeBack 18 = .ok (.invokestatic 29, 3) := by decide +kernel
theorem dX1_takeBack_21 : decode cX1_takeBack 21 = .ok (.astore_n 3, 1) := by decide +kernel
theorem dX1_takeBack_22 : decode cX1_takeBack 22 = .ok (.aload_n 0, 1) := by decide +kernel
theorem dX1_takeBack_23 : decode cX1_takeBack 23 = .ok (.getfield 37, 3) := by decide +kernel
theorem dX1_takeBack_26 : decode cX1_takeBack 26 = .ok (.ifCond .le 7, 3) := by decide +kernel
theorem dX1_takeBack_29 : decode cX1_takeBack 29 = .ok (.aload_n 3, 1) := by decide +kernel
theorem dX1_takeBack_30 : decode cX1_takeBack 30 = .ok (.ifnonnull 5, 3) := by decide +kernel
theorem dX1_takeBack_33 : decode cX1_takeBack 33 = .ok (.iconst 0, 1) := by decide +kernel
theorem dX1_takeBack_34 : decode cX1_takeBack 34 = .ok (.ireturn, 1) := by decide +kernel
theorem dX1_takeBack_35 : decode cX1_takeBack 35 = .ok (.aload_n 1, 1) := by decide +kernel
theorem dX1_takeBack_36 : decode cX1_takeBack 36 = .ok (.aload_n 3, 1) := by decide +kernel
theorem dX1_takeBack_37 : decode cX1_takeBack 37 = .ok (.invokevirtual 33, 3) := by decide +kernel
theorem dX1_takeBack_40 : decode cX1_takeBack 40 = .ok (.aload_n 0, 1) := by decide +kernel
theorem dX1_takeBack_41 : decode cX1_takeBack 41 = .ok (.iload_n 2, 1) := by decide +kernel
theorem dX1_takeBack_42 : decode cX1_takeBack 42 = .ok (.putfield 25, 3) := by decide +kernel
theorem dX1_takeBack_45 : decode cX1_takeBack 45 = .ok (.aload_n 0, 1) := by decide +kernel
theorem dX1_takeBack_46 : decode cX1_takeBack 46 = .ok (.dup, 1) := by decide +kernel
theorem dX1_takeBack_47 : decode cX1_takeBack 47 = .ok (.getfield 37, 3) := by decide +kernel
theorem dX1_takeBack_50 : decode cX1_takeBack 50 = .ok (.iconst 1, 1) := by decide +kernel
theorem dX1_takeBack_51 : decode cX1_takeBack 51 = .ok (.isub, 1) := by decide +kernel
theorem dX1_takeBack_52 : decode cX1_takeBack 52 = .ok (.putfield 37, 3) := by decide +kernel
theorem dX1_takeBack_55 : decode cX1_takeBack 55 = .ok (.iconst 1, 1) := by decide +kernel
theorem dX1_takeBack_56 : decode cX1_takeBack 56 = .ok (.ireturn, 1) := by decide +kernel
set_option maxRecDepth 20000 in
theorem ggX1_store_X1_worldAt : GoodIn wsX1_store wsX1_worldAt := goodIn_r _ [6] (by decide +kernel) (by decide +kernel)
set_option maxRecDepth 20000 in
theorem gX1_store_X1_worldAt : GoodIn wsX1_store (va_wsS RX1 29 yX1_worldAt wsX1_worldAt) := goodIn_app (goodIn_of _ (by decide +kernel)) ggX1_store_X1_worldAt
set_option maxRecDepth 20000 in
theorem ggX1_store_X8_copyFrom : GoodIn wsX1_store wsX8_copyFrom := goodIn_r _ [11, 12, 13, 14, 15, 16, 17, 18, 19, 20, 21, 22, 23, 24, 25, 26, 27, 28, 29, 30, 31, 32, 33, 34, 35, 36, 37, 38, 39, 40, 41, 42, 43, 44, 45, 46, 47, 48, 49, 50, 51, 52, 53, 54, 55, 56, 57, 58, 59, 60, 61, 62, 63, 64, 65, 66, 67, 68, 69, 70, 71, 72, 73, 74, 75, 76, 84, 85, 86, 87, 88, 89, 90, 91, 92, 93, 94, 95, 96, 97, 98, 99, 100, 101, 102, 103, 104, 105, 106, 107, 108, 109, 110, 111, 112, 113, 114, 115, 116, 117, 118, 119, 120, 121, 122] (by decide +kernel) (by decide +kernel)
set_option maxRecDepth 20000 in
theorem gX1_store_X8_copyFrom : GoodIn wsX1_store (wsV RX1 33 RX8 yX8_copyFrom wsX8_copyFrom) := goodIn_app (goodIn_of _ (by decide +kernel)) ggX1_store_X8_copyFrom
set_option maxRecDepth 20000 in
theorem ggX1_store_X9_put : GoodIn wsX1_store wsX9_put := goodIn_ca (goodIn_r _ [78] (by decide +kernel) (by decide +kernel)) (goodIn_sub (fun _ h => List.mem_cons_of_mem _ (List.mem_append_right _ h)) (by decide +kernel))
set_option maxRecDepth 20000 in
theorem gX1_store_X9_put_n46 : GoodIn wsX1_store (wsX9_put) := ggX1_store_X9_put
theorem dX1_store_0 : decode cX1_store 0 = .ok (.aload_n 0, 1) := by decide +kernel
theorem dX1_store_1 : decode cX1_store 1 = .ok (.getfield 17, 3) := by decide +kernel
theorem dX1_store_4 : decode cX1_store 4 = .ok (.iload_n 1, 1) := by decide +kernel
theorem dX1_store_5 : decode cX1_store 5 = .ok (.invokestatic 29, 3) := by decide +kernel
theorem dX1_store_8 : decode cX1_store 8 = .ok (.astore_n 3, 1) := by decide +kernel
theorem dX1_store_9 : decode cX1_store 9 = .ok (.aload_n 3, 1) := by decide +kernel
theorem dX1_store_10 : decode cX1_store 10 = .ok (.ifnonnull 4, 3) := by decide +kernel
theorem dX1_store_13 : decode cX1_store 13 = .ok (.return_, 1) := by decide +kernel
theorem dX1_store_14 : decode cX1_store 14 = .ok (.aload_n 3, 1) := by decide +kernel
theorem dX1_store_15 : decode cX1_store 15 = .ok (.aload_n 2, 1) := by decide +kernel
theorem dX1_store_16 : decode cX1_store 16 = .ok (.invokevirtual 33, 3) := by decide +kernel
theorem dX1_store_19 : decode cX1_store 19 = .ok (.aload_n 0, 1) := by decide +kernel
theorem dX1_store_20 : decode cX1_store 20 = .ok (.getfield 20, 3) := by decide +kernel
theorem dX1_store_23 : decode cX1_store 23 = .ok (.iload_n 1, 1) := by decide +kernel
theorem dX1_store_24 : decode cX1_store 24 = .ok (.iconst 1, 1) := by decide +kernel
theorem dX1_store_25 : decode cX1_store 25 = .ok (.invokestatic 46, 3) := by decide +kernel
theorem dX1_store_28 : decode cX1_store 28 = .ok (.return_, 1) := by decide +kernel
set_option maxRecDepth 20000 in
theorem ggX1_fetch_X1_worldAt : GoodIn wsX1_fetch wsX1_worldAt := goodIn_r _ [6] (by decide +kernel) (by decide +kernel)
set_option maxRecDepth 20000 in
theorem gX1_fetch_X1_worldAt : GoodIn wsX1_fetch (va_wsS RX1 29 yX1_worldAt wsX1_worldAt) := goodIn_app (goodIn_of _ (by decide +kernel)) ggX1_fetch_X1_worldAt
set_option maxRecDepth 20000 in
theorem ggX1_fetch_X9_at : GoodIn wsX1_fetch wsX9_at := goodIn_ca (goodIn_r _ [9] (by decide +kernel) (by decide +kernel)) (goodIn_sub (fun _ h => List.mem_cons_of_mem _ (List.mem_append_right _ h)) (by decide +kernel))
set_option maxRecDepth 20000 in
theorem gX1_fetch_X9_at_n50 : GoodIn wsX1_fetch (wsX9_at) := ggX1_fetch_X9_at
set_option maxRecDepth 20000 in
theorem ggX1_fetch_X8_copyFrom : GoodIn wsX1_fetch wsX8_copyFrom := goodIn_r _ [14, 15, 16, 17, 18, 19, 20, 21, 22, 23, 24, 25, 26, 27, 28, 29, 30, 31, 32, 33, 34, 35, 36, 37, 38, 39, 40, 41, 42, 43, 44, 45, 46, 47, 8, 48, 49, 50, 51, 52, 53, 54, 55, 56, 57, 58, 59, 60, 61, 62, 63, 64, 65, 66, 67, 68, 69, 70, 71, 72, 73, 74, 75, 76, 77, 78, 84, 85, 86, 87, 88, 89, 90, 91, 92, 93, 94, 95, 96, 97, 98, 99, 100, 101, 102, 103, 104, 105, 106, 107, 108, 109, 110, 111, 112, 113, 114, 115, 116, 117, 118, 119, 120, 121, 122] (by decide +kernel) (by decide +kernel)
set_option maxRecDepth 20000 in
theorem gX1_fetch_X8_copyFrom : GoodIn wsX1_fetch (wsV RX1 33 RX8 yX8_copyFrom wsX8_copyFrom) := goodIn_app (goodIn_of _ (by decide +kernel)) ggX1_fetch_X8_copyFrom
theorem dX1_fetch_0 : decode cX1_fetch 0 = .ok (.aload_n 0, 1) := by decide +kernel
theorem dX1_fetch_1 : decode cX1_fetch 1 = .ok (.getfield 17, 3) := by decide +kernel
theorem dX1_fetch_4 : decode cX1_fetch 4 = .ok (.iload_n 1, 1) := by decide +kernel
theorem dX1_fetch_5 : decode cX1_fetch 5 = .ok (.invokestatic 29, 3) := by decide +kernel
theorem dX1_fetch_8 : decode cX1_fetch 8 = .ok (.astore_n 3, 1) := by decide +kernel
theorem dX1_fetch_9 : decode cX1_fetch 9 = .ok (.aload_n 3, 1) := by decide +kernel
theorem dX1_fetch_10 : decode cX1_fetch 10 = .ok (.ifnull 14, 3) := by decide +kernel
theorem dX1_fetch_13 : decode cX1_fetch 13 = .ok (.aload_n 0, 1) := by decide +kernel
theorem dX1_fetch_14 : decode cX1_fetch 14 = .ok (.getfield 20, 3) := by decide +kernel
theorem dX1_fetch_17 : decode cX1_fetch 17 = .ok (.iload_n 1, 1) := by decide +kernel
theorem dX1_fetch_18 : decode cX1_fetch 18 = .ok (.invokestatic 50, 3) := by decide +kernel
theorem dX1_fetch_21 : decode cX1_fetch 21 = .ok (.ifCond .ne 5, 3) := by decide +kernel
theorem dX1_fetch_24 : decode cX1_fetch 24 = .ok (.iconst 0, 1) := by decide +kernel
theorem dX1_fetch_25 : decode cX1_fetch 25 = .ok (.ireturn, 1) := by decide +kernel
theorem dX1_fetch_26 : decode cX1_fetch 26 = .ok (.aload_n 2, 1) := by decide +kernel
theorem dX1_fetch_27 : decode cX1_fetch 27 = .ok (.aload_n 3, 1) := by decide +kernel
theorem dX1_fetch_28 : decode cX1_fetch 28 = .ok (.invokevirtual 33, 3) := by decide +kernel
theorem dX1_fetch_31 : decode cX1_fetch 31 = .ok (.iconst 1, 1) := by decide +kernel
theorem dX1_fetch_32 : decode cX1_fetch 32 = .ok (.ireturn, 1) := by decide +kernel
theorem dX1_forgetChanges_0 : decode cX1_forgetChanges 0 = .ok (.aload_n 0, 1) := by decide +kernel
theorem dX1_forgetChanges_1 : decode cX1_forgetChanges 1 = .ok (.iconst 0, 1) := by decide +kernel
theorem dX1_forgetChanges_2 : decode cX1_forgetChanges 2 = .ok (.putfield 37, 3) := by decide +kernel
theorem dX1_forgetChanges_5 : decode cX1_forgetChanges 5 = .ok (.return_, 1) := by decide +kernel
set_option maxRecDepth 20000 in
theorem ggX1_forgetAll_X1_forgetChanges : GoodIn wsX1_forgetAll wsX1_forgetChanges := goodIn_r _ [6, 7, 12, 13, 14, 15, 16] (by decide +kernel) (by decide +kernel)
set_option maxRecDepth 20000 in
theorem gX1_forgetAll_X1_forgetChanges : GoodIn wsX1_forgetAll (wsV RX1 54 RX1 yX1_forgetChanges wsX1_forgetChanges) := goodIn_app (goodIn_of _ (by decide +kernel)) ggX1_forgetAll_X1_forgetChanges
set_option maxRecDepth 20000 in
theorem ggX1_forgetAll_J7_fill_53178 : GoodIn wsX1_forgetAll wsJ7_fill_53178 := goodIn_r _ [11] (by decide +kernel) (by decide +kernel)
set_option maxRecDepth 20000 in
theorem gX1_forgetAll_J7_fill_53178 : GoodIn wsX1_forgetAll (va_wsS RX1 57 yJ7_fill_53178 wsJ7_fill_53178) := goodIn_app (goodIn_of _ (by decide +kernel)) ggX1_forgetAll_J7_fill_53178
theorem dX1_forgetAll_0 : decode cX1_forgetAll 0 = .ok (.aload_n 0, 1) := by decide +kernel
theorem dX1_forgetAll_1 : decode cX1_forgetAll 1 = .ok (.invokevirtual 54, 3) := by decide +kernel
theorem dX1_forgetAll_4 : decode cX1_forgetAll 4 = .ok (.aload_n 0, 1) := by decide +kernel
theorem dX1_forgetAll_5 : decode cX1_forgetAll 5 = .ok (.getfield 20, 3) := by decide +kernel
theorem dX1_forgetAll_8 : decode cX1_forgetAll 8 = .ok (.iconst 0, 1) := by decide +kernel
theorem dX1_forgetAll_9 : decode cX1_forgetAll 9 = .ok (.invokestatic 57, 3) := by decide +kernel
theorem dX1_forgetAll_12 : decode cX1_forgetAll 12 = .ok (.return_, 1) := by decide +kernel
theorem dX1_worldAt_0 : decode cX1_worldAt 0 = .ok (.iload_n 1, 1) := by decide +kernel
theorem dX1_worldAt_1 : decode cX1_worldAt 1 = .ok (.ifCond .lt 15, 3) := by decide +kernel
theorem dX1_worldAt_4 : decode cX1_worldAt 4 = .ok (.iload_n 1, 1) := by decide +kernel
theorem dX1_worldAt_5 : decode cX1_worldAt 5 = .ok (.aload_n 0, 1) := by decide +kernel
theorem dX1_worldAt_6 : decode cX1_worldAt 6 = .ok (.arraylength, 1) := by decide +kernel
theorem dX1_worldAt_7 : decode cX1_worldAt 7 = .ok (.if_icmp .ge 9, 3) := by decide +kernel
theorem dX1_worldAt_10 : decode cX1_worldAt 10 = .ok (.aload_n 0, 1) := by decide +kernel
theorem dX1_worldAt_11 : decode cX1_worldAt 11 = .ok (.iload_n 1, 1) := by decide +kernel
theorem dX1_worldAt_12 : decode cX1_worldAt 12 = .ok (.aaload, 1) := by decide +kernel
theorem dX1_worldAt_13 : decode cX1_worldAt 13 = .ok (.goto 4, 3) := by decide +kernel
theorem dX1_worldAt_16 : decode cX1_worldAt 16 = .ok (.aconst_null, 1) := by decide +kernel
theorem dX1_worldAt_17 : decode cX1_worldAt 17 = .ok (.areturn, 1) := by decide +kernel
theorem dX2_init_0 : decode cX2_init 0 = .ok (.aload_n 0, 1) := by decide +kernel
theorem dX2_init_1 : decode cX2_init 1 = .ok (.invokespecial 3, 3) := by decide +kernel
theorem dX2_init_4 : decode cX2_init 4 = .ok (.aload_n 0, 1) := by decide +kernel
theorem dX2_init_5 : decode cX2_init 5 = .ok (.bipush 10, 2) := by decide +kernel
theorem dX2_init_7 : decode cX2_init 7 = .ok (.newarray .int, 2) := by decide +kernel
theorem dX2_init_9 : decode cX2_init 9 = .ok (.putfield 9, 3) := by decide +kernel
theorem dX2_init_12 : decode cX2_init 12 = .ok (.aload_n 0, 1) := by decide +kernel
theorem dX2_init_13 : decode cX2_init 13 = .ok (.iconst 4, 1) := by decide +kernel
theorem dX2_init_14 : decode cX2_init 14 = .ok (.newarray .int, 2) := by decide +kernel
theorem dX2_init_16 : decode cX2_init 16 = .ok (.putfield 15, 3) := by decide +kernel
theorem dX2_init_19 : decode cX2_init 19 = .ok (.aload_n 0, 1) := by decide +kernel
theorem dX2_init_20 : decode cX2_init 20 = .ok (.iconst 4, 1) := by decide +kernel
theorem dX2_init_21 : decode cX2_init 21 = .ok (.newarray .int, 2) := by decide +kernel
theorem dX2_init_23 : decode cX2_init 23 = .ok (.putfield 18, 3) := by decide +kernel
theorem dX2_init_26 : decode cX2_init 26 = .ok (.aload_n 0, 1) := by decide +kernel
theorem dX2_init_27 : decode cX2_init 27 = .ok (.bipush 30, 2) := by decide +kernel
theorem dX2_init_29 : decode cX2_init 29 = .ok (.newarray .int, 2) := by decide +kernel
theorem dX2_init_31 : decode cX2_init 31 = .ok (.putfield 21, 3) := by decide +kernel
theorem dX2_init_34 : decode cX2_init 34 = .ok (.return_, 1) := by decide +kernel
set_option maxRecDepth 20000 in
theorem ggX2_reset_J7_fill_53178 : GoodIn wsX2_reset wsJ7_fill_53178 := goodIn_r _ [14] (by decide +kernel) (by decide +kernel)
set_option maxRecDepth 20000 in
theorem gX2_reset_J7_fill_53178 : GoodIn wsX2_reset (va_wsS RX2 24 yJ7_fill_53178 wsJ7_fill_53178) := goodIn_app (goodIn_of _ (by decide +kernel)) ggX2_reset_J7_fill_53178
theorem dX2_reset_0 : decode cX2_reset 0 = .ok (.aload_n 0, 1) := by decide +kernel
theorem dX2_reset_1 : decode cX2_reset 1 = .ok (.getfield 9, 3) := by decide +kernel
theorem dX2_reset_4 : decode cX2_reset 4 = .ok (.iconst 0, 1) := by decide +kernel
theorem dX2_reset_5 : decode cX2_reset 5 = .ok (.invokestatic 24, 3) := by decide +kernel
theorem dX2_reset_8 : decode cX2_reset 8 = .ok (.aload_n 0, 1) := by decide +kernel
theorem dX2_reset_9 : decode cX2_reset 9 = .ok (.iconst 2, 1) := by decide +kernel
theorem dX2_reset_10 : decode cX2_reset 10 = .ok (.putfield 30, 3) := by decide +kernel
theorem dX2_reset_13 : decode cX2_reset 13 = .ok (.aload_n 0, 1) := by decide +kernel
theorem dX2_reset_14 : decode cX2_reset 14 = .ok (.iconst 2, 1) := by decide +kernel
theorem dX2_reset_15 : decode cX2_reset 15 = .ok (.putfield 34, 3) := by decide +kernel
theorem dX2_reset_18 : decode cX2_reset 18 = .ok (.aload_n 0, 1) := by decide +kernel
theorem dX2_reset_19 : decode cX2_reset 19 = .ok (.iconst 5, 1) := by decide +kernel
theorem dX2_reset_20 : decode cX2_reset 20 = .ok (.putfield 37, 3) := by decide +kernel
theorem dX2_reset_23 : decode cX2_reset 23 = .ok (.aload_n 0, 1) := by decide +kernel
theorem dX2_reset_24 : decode cX2_reset 24 = .ok (.bipush 10, 2) := by decide +kernel
theorem dX2_reset_26 : decode cX2_reset 26 = .ok (.putfield 40, 3) := by decide +kernel
theorem dX2_reset_29 : decode cX2_reset 29 = .ok (.aload_n 0, 1) := by decide +kernel
theorem dX2_reset_30 : decode cX2_reset 30 = .ok (.iconst 0, 1) := by decide +kernel
theorem dX2_reset_31 : decode cX2_reset 31 = .ok (.putfield 43, 3) := by decide +kernel
theorem dX2_reset_34 : decode cX2_reset 34 = .ok (.aload_n 0, 1) := by decide +kernel
theorem dX2_reset_35 : decode cX2_reset 35 = .ok (.iconst 0, 1) := by decide +kernel
theorem dX2_reset_36 : decode cX2_reset 36 = .ok (.putfield 46, 3) := by decide +kernel
theorem dX2_reset_39 : decode cX2_reset 39 = .ok (.aload_n 0, 1) := by decide +kernel
theorem dX2_reset_40 : decode cX2_reset 40 = .ok (.iconst 0, 1) := by decide +kernel
theorem dX2_reset_41 : decode cX2_reset 41 = .ok (.putfield 49, 3) := by decide +kernel
theorem dX2_reset_44 : decode cX2_reset 44 = .ok (.aload_n 0, 1) := by decide +kernel
theorem dX2_reset_45 : decode cX2_reset 45 = .ok (.iconst 0, 1) := by decide +kernel
theorem dX2_reset_46 : decode cX2_reset 46 = .ok (.putfield 52, 3) := by decide +kernel
theorem dX2_reset_49 : decode cX2_reset 49 = .ok (.aload_n 0, 1) := by decide +kernel
theorem dX2_reset_50 : decode cX2_reset 50 = .ok (.iconst 0, 1) := by decide +kernel
theorem dX2_reset_51 : decode cX2_reset 51 = .ok (.putfield 55, 3) := by decide +kernel
theorem dX2_reset_54 : decode cX2_reset 54 = .ok (.return_, 1) := by decide +kernel
set_option maxRecDepth 20000 in
theorem ggX2_copyFrom_X9_copy : GoodIn wsX2_copyFrom wsX9_copy := goodIn_r _ [16, 17, 18, 19, 20, 21, 22, 23, 24] (by decide +kernel) (by decide +kernel)
set_option maxRecDepth 20000 in
theorem gX2_copyFrom_X9_copy_n58 : GoodIn wsX2_copyFrom (wsX9_copy) := ggX2_copyFrom_X9_copy
theorem dX2_copyFrom_0 : decode cX2_copyFrom 0 = .ok (.aload_n 1, 1) := by decide +kernel
theorem dX2_copyFrom_1 : decode cX2_copyFrom 1 = .ok (.getfield 9, 3) := by decide +kernel
theorem dX2_copyFrom_4 : decode cX2_copyFrom 4 = .ok (.aload_n 0, 1) := by decide +kernel
theorem dX2_copyFrom_5 : decode cX2_copyFrom 5 = .ok (.getfield 9, 3) := by decide +kernel
theorem dX2_copyFrom_8 : decode cX2_copyFrom 8 = .ok (.invokestatic 58, 3) := by decide +kernel
theorem dX2_copyFrom_11 : decode cX2_copyFrom 11 = .ok (.aload_n 1, 1) := by decide +kernel
theorem dX2_copyFrom_12 : decode cX2_copyFrom 12 = .ok (.getfield 15, 3) := by decide +kernel
theorem dX2_copyFrom_15 : decode cX2_copyFrom 15 = .ok (.aload_n 0, 1) := by decide +kernel
theorem dX2_copyFrom_16 : decode cX2_copyFrom 16 = .ok (.getfield 15, 3) := by decide +kernel
theorem dX2_copyFrom_19 : decode cX2_copyFrom 19 = .ok (.invokestatic 58, 3) := by decide +kernel
theorem dX2_copyFrom_22 : decode cX2_copyFrom 22 = .ok (.aload_n 1, 1) := by decide +kernel
theorem dX2_copyFrom_23 : decode cX2_copyFrom 23 = .ok (.getfield 18, 3) := by decide +kernel
theorem dX2_copyFrom_26 : decode cX2_copyFrom 26 = .ok (.aload_n 0, 1) := by decide +kernel
theorem dX2_copyFrom_27 : decode cX2_copyFrom 27 = .ok (.getfield 18, 3) := by decide +kernel
theorem dX2_copyFrom_30 : decode cX2_copyFrom 30 = .ok (.invokestatic 58, 3) := by decide +kernel
theorem dX2_copyFrom_33 : decode cX2_copyFrom 33 = .ok (.aload_n 1, 1) := by decide +kernel
theorem dX2_copyFrom_34 : decode cX2_copyFrom 34 = .ok (.getfield 21, 3) := by decide +kernel
theorem dX2_copyFrom_37 : decode cX2_copyFrom 37 = .ok (.aload_n 0, 1) := by decide +kernel
theorem dX2_copyFrom_38 : decode cX2_copyFrom 38 = .ok (.getfield 21, 3) := by decide +kernel
theorem dX2_copyFrom_41 : decode cX2_copyFrom 41 = .ok (.invokestatic 58, 3) := by decide +kernel
theorem dX2_copyFrom_44 : decode cX2_copyFrom 44 = .ok (.aload_n 0, 1) := by decide +kernel
theorem dX2_copyFrom_45 : decode cX2_copyFrom 45 = .ok (.aload_n 1, 1) := by decide +kernel
theorem dX2_copyFrom_46 : decode cX2_copyFrom 46 = .ok (.getfield 30, 3) := by decide +kernel
theorem dX2_copyFrom_49 : decode cX2_copyFrom 49 = .ok (.putfield 30, 3) := by decide +kernel
theorem dX2_copyFrom_52 : decode cX2_copyFrom 52 = .ok (.aload_n 0, 1) := by decide +kernel
theorem dX2_copyFrom_53 : decode cX2_copyFrom 53 = .ok (.aload_n 1, 1) := by decide +kernel
theorem dX2_copyFrom_54 : decode cX2_copyFrom 54 = .ok (.getfield 34, 3) := by decide +kernel
theorem dX2_copyFrom_57 : decode cX2_copyFrom 57 = .ok (.putfield 34, 3) := by decide +kernel
theorem dX2_copyFrom_60 : decode cX2_copyFrom 60 = .ok (.aload_n 0, 1) := by decide +kernel
theorem dX2_copyFrom_61 : decode cX2_copyFrom 61 = .ok (.aload_n 1, 1) := by decide +kernel
theorem dX2_copyFrom_62 : decode cX2_copyFrom 62 = .ok (.getfield 37, 3) := by decide +kernel
theorem dX2_copyFrom_65 : decode cX2_copyFrom 65 = .ok (.putfield 37, 3) := by decide +kernel
theorem dX2_copyFrom_68 : decode cX2_copyFrom 68 = .ok (.aload_n 0, 1) := by decide +kernel
theorem dX2_copyFrom_69 : decode cX2_copyFrom 69 = .ok (.aload_n 1, 1) := by decide +kernel
theorem dX2_copyFrom_70 : decode cX2_copyFrom 70 = .ok (.getfield 40, 3) := by decide +kernel
theorem dX2_copyFrom_73 : decode cX2_copyFrom 73 = .ok (.putfield 40, 3) := by decide +kernel
theorem dX2_copyFrom_76 : decode cX2_copyFrom 76 = .ok (.aload_n 0, 1) := by decide +kernel
theorem dX2_copyFrom_77 : decode cX2_copyFrom 77 = .ok (.aload_n 1, 1) := by decide +kernel
theorem dX2_copyFrom_78 : decode cX2_copyFrom 78 = .ok (.getfield 43, 3) := by decide +kernel
theorem dX2_copyFrom_81 : decode cX2_copyFrom 81 = .ok (.putfield 43, 3) := by decide +kernel
theorem dX2_copyFrom_84 : decode cX2_copyFrom 84 = .ok (.aload_n 0, 1) := by decide +kernel
theorem dX2_copyFrom_85 : decode cX2_copyFrom 85 = .ok (.aload_n 1, 1) := by decide +kernel
theorem dX2_copyFrom_86 : decode cX2_copyFrom 86 = .ok (.getfield 46, 3) := by decide +kernel
theorem dX2_copyFrom_89 : decode cX2_copyFrom 89 = .ok (.putfield 46, 3) := by decide +kernel
theorem dX2_copyFrom_92 : decode cX2_copyFrom 92 = .ok (.aload_n 0, 1) := by decide +kernel
theorem dX2_copyFrom_93 : decode cX2_copyFrom 93 = .ok (.aload_n 1, 1) := by decide +kernel
theorem dX2_copyFrom_94 : decode cX2_copyFrom 94 = .ok (.getfield 49, 3) := by decide +kernel
theorem dX2_copyFrom_97 : decode cX2_copyFrom 97 = .ok (.putfield 49, 3) := by decide +kernel
theorem dX2_copyFrom_100 : decode cX2_copyFrom 100 = .ok (.aload_n 0, 1) := by decide +kernel
theorem dX2_copyFrom_101 : decode cX2_copyFrom 101 = .ok (.aload_n 1, 1) := by decide +kernel
theorem dX2_copyFrom_102 : decode cX2_copyFrom 102 = .ok (.getfield 52, 3) := by decide +kernel
theorem dX2_copyFrom_105 : decode cX2_copyFrom 105 = .ok (.putfield 52, 3) := by decide +kernel
theorem dX2_copyFrom_108 : decode cX2_copyFrom 108 = .ok (.aload_n 0, 1) := by decide +kernel
theorem dX2_copyFrom_109 : decode cX2_copyFrom 109 = .ok (.aload_n 1, 1) := by decide +kernel
theorem dX2_copyFrom_110 : decode cX2_copyFrom 110 = .ok (.getfield 55, 3) := by decide +kernel
theorem dX2_copyFrom_113 : decode cX2_copyFrom 113 = .ok (.putfield 55, 3) := by decide +kernel
theorem dX2_copyFrom_116 : decode cX2_copyFrom 116 = .ok (.return_, 1) := by decide +kernel
theorem dX2_isCloudy_0 : decode cX2_isCloudy 0 = .ok (.iconst 0, 1) := by decide +kernel
theorem dX2_isCloudy_1 : decode cX2_isCloudy 1 = .ok (.istore_n 2, 1) := by decide +kernel
theorem dX2_isCloudy_2 : decode cX2_isCloudy 2 = .ok (.iload_n 2, 1) := by decide +kernel
theorem dX2_isCloudy_3 : decode cX2_isCloudy 3 = .ok (.aload_n 0, 1) := by decide +kernel
theorem dX2_isCloudy_4 : decode cX2_isCloudy 4 = .ok (.getfield 52, 3) := by decide +kernel
theorem dX2_isCloudy_7 : decode cX2_isCloudy 7 = .ok (.if_icmp .ge 36, 3) := by decide +kernel
theorem dX2_isCloudy_10 : decode cX2_isCloudy 10 = .ok (.iload_n 2, 1) := by decide +kernel
theorem dX2_isCloudy_11 : decode cX2_isCloudy 11 = .ok (.iconst 4, 1) := by decide +kernel
theorem dX2_isCloudy_12 : decode cX2_isCloudy 12 = .ok (.if_icmp .ge 31, 3) := by decide +kernel
theorem dX2_isCloudy_15 : decode cX2_isCloudy 15 = .ok (.iload_n 1, 1) := by decide +kernel
theorem dX2_isCloudy_16 : decode cX2_isCloudy 16 = .ok (.aload_n 0, 1) := by decide +kernel
theorem dX2_isCloudy_17 : decode cX2_isCloudy 17 = .ok (.getfield 15, 3) := by decide +kernel
theorem dX2_isCloudy_20 : decode cX2_isCloudy 20 = .ok (.iload_n 2, 1) := by decide +kernel
theorem dX2_isCloudy_21 : decode cX2_isCloudy 21 = .ok (.iaload, 1) := by decide +kernel
theorem dX2_isCloudy_22 : decode cX2_isCloudy 22 = .ok (.if_icmp .lt 15, 3) := by decide +kernel
theorem dX2_isCloudy_25 : decode cX2_isCloudy 25 = .ok (.iload_n 1, 1) := by decide +kernel
theorem dX2_isCloudy_26 : decode cX2_isCloudy 26 = .ok (.aload_n 0, 1) := by decide +kernel
theorem dX2_isCloudy_27 : decode cX2_isCloudy 27 = .ok (.getfield 18, 3) := by decide +kernel
theorem dX2_isCloudy_30 : decode cX2_isCloudy 30 = .ok (.iload_n 2, 1) := by decide +kernel
theorem dX2_isCloudy_31 : decode cX2_isCloudy 31 = .ok (.iaload, 1) := by decide +kernel
theorem dX2_isCloudy_32 : decode cX2_isCloudy 32 = .ok (.if_icmp .gt 5, 3) := by decide +kernel
theorem dX2_isCloudy_35 : decode cX2_isCloudy 35 = .ok (.iconst 1, 1) := by decide +kernel
theorem dX2_isCloudy_36 : decode cX2_isCloudy 36 = .ok (.ireturn, 1) := by decide +kernel
theorem dX2_isCloudy_37 : decode cX2_isCloudy 37 = .ok (.iinc 2 1, 3) := by decide +kernel
theorem dX2_isCloudy_40 : decode cX2_isCloudy 40 = .ok (.goto (-38), 3) := by decide +kernel
theorem dX2_isCloudy_43 : decode cX2_isCloudy 43 = .ok (.iconst 0, 1) := by decide +kernel
theorem dX2_isCloudy_44 : decode cX2_isCloudy 44 = .ok (.ireturn, 1) := by decide +kernel
theorem dX3_init_0 : decode cX3_init 0 = .ok (.aload_n 0, 1) := by decide +kernel
theorem dX3_init_1 : decode cX3_init 1 = .ok (.invokespecial 3, 3) := by decide +kernel
theorem dX3_init_4 : decode cX3_init 4 = .ok (.aload_n 0, 1) := by decide +kernel
theorem dX3_init_5 : decode cX3_init 5 = .ok (.bipush 10, 2) := by decide +kernel
theorem dX3_init_7 : decode cX3_init 7 = .ok (.newarray .int, 2) := by decide +kernel
theorem dX3_init_9 : decode cX3_init 9 = .ok (.putfield 9, 3) := by decide +kernel
theorem dX3_init_12 : decode cX3_init 12 = .ok (.aload_n 0, 1) := by decide +kernel
theorem dX3_init_13 : decode cX3_init 13 = .ok (.bipush 10, 2) := by decide +kernel
theorem dX3_init_15 : decode cX3_init 15 = .ok (.newarray .int, 2) := by decide +kernel
theorem dX3_init_17 : decode cX3_init 17 = .ok (.putfield 15, 3) := by decide +kernel
theorem dX3_init_20 : decode cX3_init 20 = .ok (.return_, 1) := by decide +kernel
theorem dX3_reset_0 : decode cX3_reset 0 = .ok (.aload_n 0, 1) := by decide +kernel
theorem dX3_reset_1 : decode cX3_reset 1 = .ok (.iconst 0, 1) := by decide +kernel
theorem dX3_reset_2 : decode cX3_reset 2 = .ok (.putfield 18, 3) := by decide +kernel
theorem dX3_reset_5 : decode cX3_reset 5 = .ok (.return_, 1) := by decide +kernel
set_option maxRecDepth 20000 in
theorem ggX3_copyFrom_X9_copy : GoodIn wsX3_copyFrom wsX9_copy := goodIn_r _ [6, 7, 8, 9, 10, 11, 12, 13, 14] (by decide +kernel) (by decide +kernel)
set_option maxRecDepth 20000 in
theorem gX3_copyFrom_X9_copy_n22 : GoodIn wsX3_copyFrom (wsX9_copy) := ggX3_copyFrom_X9_copy
theorem dX3_copyFrom_0 : decode cX3_copyFrom 0 = .ok (.aload_n 1, 1) := by decide +kernel
theorem dX3_copyFrom_1 : decode cX3_copyFrom 1 = .ok (.getfield 9, 3) := by decide +kernel
theorem dX3_copyFrom_4 : decode cX3_copyFrom 4 = .ok (.aload_n 0, 1) := by decide +kernel
theorem dX3_copyFrom_5 : decode cX3_copyFrom 5 = .ok (.getfield 9, 3) := by decide +kernel
theorem dX3_copyFrom_8 : decode cX3_copyFrom 8 = .ok (.invokestatic 22, 3) := by decide +kernel
theorem dX3_copyFrom_11 : decode cX3_copyFrom 11 = .ok (.aload_n 1, 1) := by decide +kernel
theorem dX3_copyFrom_12 : decode cX3_copyFrom 12 = .ok (.getfield 15, 3) := by decide +kernel
theorem dX3_copyFrom_15 : decode cX3_copyFrom 15 = .ok (.aload_n 0, 1) := by decide +kernel
theorem dX3_copyFrom_16 : decode cX3_copyFrom 16 = .ok (.getfield 15, 3) := by decide +kernel
theorem dX3_copyFrom_19 : decode cX3_copyFrom 19 = .ok (.invokestatic 22, 3) := by decide +kernel
theorem dX3_copyFrom_22 : decode cX3_copyFrom 22 = .ok (.aload_n 0, 1) := by decide +kernel
theorem dX3_copyFrom_23 : decode cX3_copyFrom 23 = .ok (.aload_n 1, 1) := by decide +kernel
theorem dX3_copyFrom_24 : decode cX3_copyFrom 24 = .ok (.getfield 18, 3) := by decide +kernel
theorem dX3_copyFrom_27 : decode cX3_copyFrom 27 = .ok (.putfield 18, 3) := by decide +kernel
theorem dX3_copyFrom_30 : decode cX3_copyFrom 30 = .ok (.return_, 1) := by decide +kernel
theorem dX3_rankFor_0 : decode cX3_rankFor 0 = .ok (.iconst 0, 1) := by decide +kernel
theorem dX3_rankFor_1 : decode cX3_rankFor 1 = .ok (.istore_n 2, 1) := by decide +kernel
theorem dX3_rankFor_2 : decode cX3_rankFor 2 = .ok (.iload_n 2, 1) := by decide +kernel
theorem dX3_rankFor_3 : decode cX3_rankFor 3 = .ok (.aload_n 0, 1) := by decide +kernel
theorem dX3_rankFor_4 : decode cX3_rankFor 4 = .ok (.getfield 18, 3) := by decide +kernel
theorem dX3_rankFor_7 : decode cX3_rankFor 7 = .ok (.if_icmp .ge 25, 3) := by decide +kernel
theorem dX3_rankFor_10 : decode cX3_rankFor 10 = .ok (.iload_n 2, 1) := by decide +kernel
theorem dX3_rankFor_11 : decode cX3_rankFor 11 = .ok (.bipush 10, 2) := by decide +kernel
theorem dX3_rankFor_13 : decode cX3_rankFor 13 = .ok (.if_icmp .ge 19, 3) := by decide +kernel
theorem dX3_rankFor_16 : decode cX3_rankFor 16 = .ok (.aload_n 0, 1) := by decide +kernel
theorem dX3_rankFor_17 : decode cX3_rankFor 17 = .ok (.getfield 15, 3) := by decide +kernel
theorem dX3_rankFor_20 : decode cX3_rankFor 20 = .ok (.iload_n 2, 1) := by decide +kernel
theorem dX3_rankFor_21 : decode cX3_rankFor 21 = .ok (.iaload, 1) := by decide +kernel
theorem dX3_rankFor_22 : decode cX3_rankFor 22 = .ok (.iload_n 1, 1) := by decide +kernel
theorem dX3_rankFor_23 : decode cX3_rankFor 23 = .ok (.if_icmp .lt 9, 3) := by decide +kernel
theorem dX3_rankFor_26 : decode cX3_rankFor 26 = .ok (.iinc 2 1, 3) := by decide +kernel
theorem dX3_rankFor_29 : decode cX3_rankFor 29 = .ok (.goto (-27), 3) := by decide +kernel
theorem dX3_rankFor_32 : decode cX3_rankFor 32 = .ok (.iload_n 2, 1) := by decide +kernel
theorem dX3_rankFor_33 : decode cX3_rankFor 33 = .ok (.ireturn, 1) := by decide +kernel
set_option maxRecDepth 20000 in
theorem ggX3_add_X3_rankFor : GoodIn wsX3_add wsX3_rankFor := goodIn_ca (goodIn_r _ [12, 1, 7, 18, 19, 20] (by decide +kernel) (by decide +kernel)) (goodIn_sub (fun _ h => List.mem_cons_of_mem _ (List.mem_append_right _ h)) (by decide +kernel))
set_option maxRecDepth 20000 in
theorem gX3_add_X3_rankFor : GoodIn wsX3_add (wsV RX3 26 RX3 yX3_rankFor wsX3_rankFor) := goodIn_app (goodIn_of _ (by decide +kernel)) ggX3_add_X3_rankFor
set_option maxRecDepth 20000 in
theorem ggX3_add_X9_at : GoodIn wsX3_add wsX9_at := goodIn_ca (goodIn_r _ [15] (by decide +kernel) (by decide +kernel)) (goodIn_sub (fun _ h => List.mem_cons_of_mem _ (List.mem_append_right _ h)) (by decide +kernel))
set_option maxRecDepth 20000 in
theorem gX3_add_X9_at_n36 : GoodIn wsX3_add (wsX9_at) := ggX3_add_X9_at
set_option maxRecDepth 20000 in
theorem ggX3_add_X9_put : GoodIn wsX3_add wsX9_put := goodIn_ca (goodIn_r _ [17] (by decide +kernel) (by decide +kernel)) (goodIn_sub (fun _ h => List.mem_cons_of_mem _ (List.mem_append_right _ h)) (by decide +kernel))
set_option maxRecDepth 20000 in
theorem gX3_add_X9_put_n40 : GoodIn wsX3_add (wsX9_put) := ggX3_add_X9_put
theorem dX3_add_0 : decode cX3_add 0 = .ok (.aload_n 0, 1) := by decide +kernel
theorem dX3_add_1 : decode cX3_add 1 = .ok (.iload_n 2, 1) := by decide +kernel
theorem dX3_add_2 : decode cX3_add 2 = .ok (.invokevirtual 26, 3) := by decide +kernel
theorem dX3_add_5 : decode cX3_add 5 = .ok (.istore_n 3, 1) := by decide +kernel
theorem dX3_add_6 : decode cX3_add 6 = .ok (.iload_n 3, 1) := by decide +kernel
theorem dX3_add_7 : decode cX3_add 7 = .ok (.bipush 10, 2) := by decide +kernel
theorem dX3_add_9 : decode cX3_add 9 = .ok (.if_icmp .lt 4, 3) := by decide +kernel
theorem dX3_add_12 : decode cX3_add 12 = .ok (.return_, 1) := by decide +kernel
theorem dX3_add_13 : decode cX3_add 13 = .ok (.aload_n 0, 1) := by decide +kernel
theorem dX3_add_14 : decode cX3_add 14 = .ok (.aload_n 0, 1) := by decide +kernel
theorem dX3_add_15 : decode cX3_add 15 = .ok (.getfield 18, 3) := by decide +kernel
theorem dX3_add_18 : decode cX3_add 18 = .ok (.iconst 1, 1) := by decide +kernel
theorem dX3_add_19 : decode cX3_add 19 = .ok (.iadd, 1) := by decide +kernel
theorem dX3_add_20 : decode cX3_add 20 = .ok (.bipush 10, 2) := by decide +kernel
theorem dX3_add_22 : decode cX3_add 22 = .ok (.invokestatic 30, 3) := by decide +kernel
theorem dX3_add_25 : decode cX3_add 25 = .ok (.putfield 18, 3) := by decide +kernel
theorem dX3_add_28 : decode cX3_add 28 = .ok (.aload_n 0, 1) := by decide +kernel
theorem dX3_add_29 : decode cX3_add 29 = .ok (.getfield 18, 3) := by decide +kernel
theorem dX3_add_32 : decode cX3_add 32 = .ok (.iconst 1, 1) := by decide +kernel
theorem dX3_add_33 : decode cX3_add 33 = .ok (.isub, 1) := by decide +kernel
theorem dX3_add_34 : decode cX3_add 34 = .ok (.istore 4, 2) := by decide +kernel
theorem dX3_add_36 : decode cX3_add 36 = .ok (.iload 4, 2) := by decide +kernel
theorem dX3_add_38 : decode cX3_add 38 = .ok (.iload_n 3, 1) := by decide +kernel
theorem dX3_add_39 : decode cX3_add 39 = .ok (.if_icmp .le 49, 3) := by decide +kernel
theorem dX3_add_42 : decode cX3_add 42 = .ok (.aload_n 0, 1) := by decide +kernel
theorem dX3_add_43 : decode cX3_add 43 = .ok (.getfield 9, 3) := by decide +kernel
theorem dX3_add_46 : decode cX3_add 46 = .ok (.iload 4, 2) := by decide +kernel
theorem dX3_add_48 : decode cX3_add 48 = .ok (.aload_n 0, 1) := by decide +kernel
theorem dX3_add_49 : decode cX3_add 49 = .ok (.getfield 9, 3) := by decide +kernel
theorem dX3_add_52 : decode cX3_add 52 = .ok (.iload 4, 2) := by decide +kernel
theorem dX3_add_54 : decode cX3_add 54 = .ok (.iconst 1, 1) := by decide +kernel
theorem dX3_add_55 : decode cX3_add 55 = .ok (.isub, 1) := by decide +kernel
theorem dX3_add_56 : decode cX3_add 56 = .ok (.invokestatic 36, 3) := by decide +kernel
theorem dX3_add_59 : decode cX3_add 59 = .ok (.invokestatic 40, 3) := by decide +kernel
theorem dX3_add_62 : decode cX3_add 62 = .ok (.aload_n 0, 1) := by decide +kernel
theorem dX3_add_63 : decode cX3_add 63 = .ok (.getfield 15, 3) := by decide +kernel
theorem dX3_add_66 : decode cX3_add 66 = .ok (.iload 4, 2) := by decide +kernel
theorem dX3_add_68 : decode cX3_add 68 = .ok (.aload_n 0, 1) := by decide +kernel
theorem dX3_add_69 : decode cX3_add 69 = .ok (.getfield 15, 3) := by decide +kernel
theorem dX3_add_72 : decode cX3_add 72 = .ok (.iload 4, 2) := by decide +kernel
theorem dX3_add_74 : decode cX3_add 74 = .ok (.iconst 1, 1) := by decide +kernel
theorem dX3_add_75 : decode cX3_add 75 = .ok (.isub, 1) := by decide +kernel
theorem dX3_add_76 : decode cX3_add 76 = .ok (.invokestatic 36, 3) := by decide +kernel
theorem dX3_add_79 : decode cX3_add 79 = .ok (.invokestatic 40, 3) := by decide +kernel
theorem dX3_add_82 : decode cX3_add 82 = .ok (.iinc 4 (-1), 3) := by decide +kernel
theorem dX3_add_85 : decode cX3_add 85 = .ok (.goto (-49), 3) := by decide +kernel
theorem dX3_add_88 : decode cX3_add 88 = .ok (.aload_n 0, 1) := by decide +kernel
theorem dX3_add_89 : decode cX3_add 89 = .ok (.getfield 9, 3) := by decide +kernel
theorem dX3_add_92 : decode cX3_add 92 = .ok (.iload_n 3, 1) := by decide +kernel
theorem dX3_add_93 : decode cX3_add 93 = .ok (.iload_n 1, 1) := by decide +kernel
theorem dX3_add_94 : decode cX3_add 94 = .ok (.invokestatic 40, 3) := by decide +kernel
theorem dX3_add_97 : decode cX3_add 97 = .ok (.aload_n 0, 1) := by decide +kernel
theorem dX3_add_98 : decode cX3_add 98 = .ok (.getfield 15, 3) := by decide +kernel
theorem dX3_add_101 : decode cX3_add 101 = .ok (.iload_n 3, 1) := by decide +kernel
theorem dX3_add_102 : decode cX3_add 102 = .ok (.iload_n 2, 1) := by decide +kernel
theorem dX3_add_103 : decode cX3_add 103 = .ok (.invokestatic 40, 3) := by decide +kernel
theorem dX3_add_106 : decode cX3_add 106 = .ok (.return_, 1) := by decide +kernel
set_option maxRecDepth 20000 in
theorem ggX4_init_X6_init : GoodIn wsX4_init wsX6_init := goodIn_r _ [15, 16, 2, 3, 17, 18, 8, 19, 20, 21, 22, 23, 24, 25] (by decide +kernel) (by decide +kernel)
set_option maxRecDepth 20000 in
theorem gX4_init_X6_init_n11 : GoodIn wsX4_init (wsX6_init) := ggX4_init_X6_init
theorem dX4_init_0 : decode cX4_init 0 = .ok (.aload_n 0, 1) := by decide +kernel
theorem dX4_init_1 : decode cX4_init 1 = .ok (.invokespecial 3, 3) := by decide +kernel
theorem dX4_init_4 : decode cX4_init 4 = .ok (.aload_n 0, 1) := by decide +kernel
theorem dX4_init_5 : decode cX4_init 5 = .ok (.new 9, 3) := by decide +kernel
theorem dX4_init_8 : decode cX4_init 8 = .ok (.dup, 1) := by decide +kernel
theorem dX4_init_9 : decode cX4_init 9 = .ok (.invokespecial 11, 3) := by decide +kernel
theorem dX4_init_12 : decode cX4_init 12 = .ok (.putfield 12, 3) := by decide +kernel
theorem dX4_init_15 : decode cX4_init 15 = .ok (.aload_n 0, 1) := by decide +kernel
theorem dX4_init_16 : decode cX4_init 16 = .ok (.iconst 3, 1) := by decide +kernel
theorem dX4_init_17 : decode cX4_init 17 = .ok (.newarray .int, 2) := by decide +kernel
theorem dX4_init_19 : decode cX4_init 19 = .ok (.putfield 18, 3) := by decide +kernel
theorem dX4_init_22 : decode cX4_init 22 = .ok (.aload_n 0, 1) := by decide +kernel
theorem dX4_init_23 : decode cX4_init 23 = .ok (.iconst 3, 1) := by decide +kernel
theorem dX4_init_24 : decode cX4_init 24 = .ok (.newarray .int, 2) := by decide +kernel
theorem dX4_init_26 : decode cX4_init 26 = .ok (.putfield 22, 3) := by decide +kernel
theorem dX4_init_29 : decode cX4_init 29 = .ok (.aload_n 0, 1) := by decide +kernel
theorem dX4_init_30 : decode cX4_init 30 = .ok (.aload_n 1, 1) := by decide +kernel
theorem dX4_init_31 : decode cX4_init 31 = .ok (.putfield 25, 3) := by decide +kernel
theorem dX4_init_34 : decode cX4_init 34 = .ok (.aload_n 0, 1) := by decide +kernel
theorem dX4_init_35 : decode cX4_init 35 = .ok (.iconst 0, 1) := by decide +kernel
theorem dX4_init_36 : decode cX4_init 36 = .ok (.putfield 29, 3) := by decide +kernel
theorem dX4_init_39 : decode cX4_init 39 = .ok (.aload_n 0, 1) := by decide +kernel
theorem dX4_init_40 : decode cX4_init 40 = .ok (.iconst (-1), 1) := by decide +kernel
theorem dX4_init_41 : decode cX4_init 41 = .ok (.putfield 33, 3) := by decide +kernel
theorem dX4_init_44 : decode cX4_init 44 = .ok (.return_, 1) := by decide +kernel
set_option maxRecDepth 20000 in
theorem ggX4_read_X4_restart : GoodIn wsX4_read wsX4_restart := goodIn_r _ [11, 6, 12, 13, 5, 14, 3, 4, 15, 16, 17, 18, 19, 20, 21, 22, 23, 24, 25, 26, 27, 28, 29, 30, 31, 32, 33, 34, 35, 36, 37, 38, 39, 40, 41, 42, 43, 44, 45, 46, 47, 48, 49, 50, 51, 52, 53, 54, 55, 56, 57, 58, 59, 60, 61, 62, 63, 64, 65, 66, 67, 68, 69, 70, 71, 72, 73, 74, 515, 516, 517, 518, 519, 520, 521, 522, 523, 524, 525, 526, 527, 528, 529, 530, 531, 532, 533, 534, 535, 536, 537, 538, 539, 540, 541, 542, 543, 544, 545, 546, 547, 548, 549, 550, 551, 552, 553, 554, 555, 556, 557, 558, 559, 560, 561, 562, 563, 564] (by decide +kernel) (by decide +kernel)
set_option maxRecDepth 20000 in
theorem gX4_read_X4_restart : GoodIn wsX4_read (wsV RX4 36 RX4 yX4_restart wsX4_restart) := goodIn_app (goodIn_of _ (by decide +kernel)) ggX4_read_X4_restart
set_option maxRecDepth 20000 in
theorem ggX4_read_X6_scan : GoodIn wsX4_read wsX6_scan := goodIn_ca (goodIn_r _ [79, 80, 81, 82, 83, 84, 85, 86, 87, 78, 88, 89, 90, 91, 92, 93, 94, 95, 96, 97, 98, 99, 100, 101, 102, 103, 104, 105, 106, 107, 108, 109, 110, 111, 112, 113, 114, 115, 116, 117, 118, 119, 120, 121, 122, 123, 124, 125, 126, 127, 128, 129, 130, 131, 132, 133, 134, 135, 136, 137, 138, 139, 140, 141, 142, 143, 144, 145, 146, 147, 148, 149, 150, 151, 152, 153, 154, 155, 156, 157, 158, 159, 160, 161, 162, 163, 164, 165, 565, 566, 567, 568, 569, 570, 571, 572, 573] (by decide +kernel) (by decide +kernel)) (goodIn_sub (fun _ h => List.mem_cons_of_mem _ (List.mem_append_right _ h)) (by decide +kernel))
set_option maxRecDepth 20000 in
theorem gX4_read_X6_scan : GoodIn wsX4_read (wsV RX4 39 RX6 yX6_scan wsX6_scan) := goodIn_app (goodIn_of _ (by decide +kernel)) ggX4_read_X6_scan
set_option maxRecDepth 20000 in
theorem ggX4_read_X4_readFloor : GoodIn wsX4_read wsX4_readFloor := goodIn_ca (goodIn_r _ [169, 1, 170, 6, 171, 172, 173, 174, 175, 176, 78, 177, 81, 80, 161, 82, 178, 179, 180, 10, 181, 4, 15, 182, 183, 184, 185, 162, 186, 187, 188, 189, 190, 191, 192, 193, 194, 195, 196, 197, 198, 199, 200, 201, 202, 163, 83, 84, 85, 515, 516, 517, 518, 519, 520, 521, 522, 523, 524, 525, 526, 527, 528, 529, 530, 531, 532, 533, 534, 535, 536, 537, 538, 539, 540, 541, 542, 543, 544, 545, 546, 547, 548, 549, 550, 551, 552, 565, 566, 567, 568, 569] (by decide +kernel) (by decide +kernel)) (goodIn_sub (fun _ h => List.mem_cons_of_mem _ (List.mem_append_right _ h)) (by decide +kernel))
set_option maxRecDepth 20000 in
theorem gX4_read_X4_readFloor : GoodIn wsX4_read (wsV RX4 43 RX4 yX4_readFloor wsX4_readFloor) := goodIn_app (goodIn_of _ (by decide +kernel)) ggX4_read_X4_readFloor
set_option maxRecDepth 20000 in
theorem ggX4_read_X4_readSeparator : GoodIn wsX4_read wsX4_readSeparator := goodIn_ca (goodIn_r _ [206, 1, 207, 5, 208, 12, 209, 174, 175, 176, 78, 177, 81, 80, 161, 82, 186, 187, 188, 189, 210, 211, 212, 10, 213, 214, 215, 83, 84, 85, 164, 165, 216, 217, 218, 219, 220, 221, 222, 223, 3, 14, 6, 224, 225, 226, 19, 227, 22, 228, 21, 229, 230, 231, 232, 233, 234, 31, 235, 236, 237, 238, 30, 239, 240, 241, 38, 242, 48, 243, 244, 245, 246, 247, 248, 24, 249, 250, 251, 252, 253, 254, 255, 256, 257, 258, 259, 260, 261, 262, 263, 264, 265, 26, 178, 179, 180, 181, 4, 15, 182, 183, 184, 185, 162, 515, 516, 517, 518, 519, 520, 521, 522, 523, 524, 525, 565, 566, 567, 568, 569, 526, 527, 528, 529, 530, 531, 532, 533, 534, 535, 536, 537, 538, 539, 553, 554, 555, 556, 557, 558, 559, 560, 561, 540, 541, 542, 543, 544, 545, 546, 547, 548, 549, 550, 551, 552] (by decide +kernel) (by decide +kernel)) (goodIn_sub (fun _ h => List.mem_cons_of_mem _ (List.mem_append_right _ h)) (by decide +kernel))
set_option maxRecDepth 20000 in
theorem gX4_read_X4_readSeparator : GoodIn wsX4_read (wsV RX4 54 RX4 yX4_readSeparator wsX4_readSeparator) := goodIn_app (goodIn_of _ (by decide +kernel)) ggX4_read_X4_readSeparator
set_option maxRecDepth 20000 in
theorem ggX4_read_X4_startsEvent : GoodIn wsX4_read wsX4_startsEvent := goodIn_r _ [269, 1, 14, 270, 271, 174, 175, 176, 78, 177, 81, 80, 161, 82, 515, 516, 517, 518, 519, 520, 521, 522, 523, 524, 525, 565, 566, 567, 568, 569] (by decide +kernel) (by decide +kernel)
set_option maxRecDepth 20000 in
theorem gX4_read_X4_startsEvent : GoodIn wsX4_read (wsV RX4 57 RX4 yX4_startsEvent wsX4_startsEvent) := goodIn_app (goodIn_of _ (by decide +kernel)) ggX4_read_X4_startsEvent
set_option maxRecDepth 20000 in
theorem ggX4_read_X4_readEvent : GoodIn wsX4_read wsX4_readEvent := goodIn_ca (goodIn_r _ [275, 1, 270, 276, 12, 5, 277, 6, 278, 279, 280, 281, 282, 283, 174, 175, 176, 78, 177, 81, 80, 161, 82, 178, 179, 180, 10, 181, 4, 15, 182, 183, 184, 185, 162, 284, 285, 286, 287, 14, 224, 225, 226, 19, 227, 22, 228, 21, 229, 230, 231, 232, 233, 234, 31, 235, 236, 237, 238, 30, 239, 240, 241, 38, 242, 48, 243, 244, 245, 246, 247, 248, 24, 249, 250, 251, 252, 253, 254, 255, 256, 257, 258, 259, 260, 261, 83, 84, 85, 262, 263, 264, 265, 26, 288, 289, 290, 291, 292, 293, 294, 295, 296, 13, 186, 187, 188, 189, 194, 195, 196, 197, 198, 199, 200, 201, 202, 163, 297, 298, 299, 300, 301, 302, 303, 304, 305, 306, 307, 308, 309, 310, 311, 312, 313, 314, 315, 316, 27, 190, 191, 192, 193, 164, 165, 317, 318, 319, 320, 171, 173, 321, 322, 323, 324, 325, 326, 327, 328, 329, 330, 331, 215, 214, 332, 333, 334, 335, 336, 337, 338, 339, 340, 341, 342, 343, 344, 345, 172, 346, 347, 348, 349, 350, 351, 352, 353, 354, 355, 356, 357, 358, 359, 360, 361, 362, 363, 515, 516, 517, 518, 519, 520, 521, 522, 523, 524, 525, 526, 527, 528, 529, 530, 531, 532, 533, 534, 535, 536, 537, 538, 539, 553, 554, 555, 556, 557, 558, 559, 560, 561, 565, 566, 567, 568, 569, 540, 541, 542, 543, 544, 545, 546, 547, 548, 549, 550, 551, 552] (by decide +kernel) (by decide +kernel)) (goodIn_sub (fun _ h => List.mem_cons_of_mem _ (List.mem_append_right _ h)) (by decide +kernel))
set_option maxRecDepth 20000 in
theorem gX4_read_X4_readEvent : GoodIn wsX4_read (wsV RX4 61 RX4 yX4_readEvent wsX4_readEvent) := goodIn_app (goodIn_of _ (by decide +kernel)) ggX4_read_X4_readEvent
set_option maxRecDepth 20000 in
theorem ggX4_read_X8_passMinutes : GoodIn wsX4_read wsX8_passMinutes := goodIn_ca (goodIn_r _ [367, 368, 369, 370, 19, 371, 27, 33, 22, 372, 228, 31, 373, 374, 375, 376, 21, 377, 378, 34, 26, 83, 84, 85, 379, 380, 381, 382, 229, 292, 383, 384, 385, 386, 387, 388, 389, 164, 165, 390, 391, 392, 57, 393, 67, 62, 63, 394, 395, 396, 397, 398, 399, 400, 401, 249, 250, 251, 252, 258, 259, 260, 261, 402, 403, 404, 405, 230, 406, 407, 408, 409, 410, 29, 411, 412, 413, 231, 232, 233, 234, 235, 236, 237, 238, 30, 239, 240, 241, 38, 242, 48, 243, 244, 414, 415, 416, 417, 418, 419, 420, 421, 422, 423, 24, 424, 425, 426, 427, 61, 66, 428, 429, 430, 431, 28, 32, 432, 314, 315, 316, 433, 434, 435, 436, 25, 437, 438, 439, 440, 64, 65, 441, 442, 443, 444, 445, 446, 447, 448, 449, 450, 451, 452, 310, 311, 312, 453, 289, 290, 291, 257, 454, 455, 456, 457, 458, 23, 459, 460, 461, 71, 462, 73, 463, 464, 465, 466, 467, 468, 469, 470, 471, 472, 473, 474, 475, 225, 226, 227, 245, 246, 247, 248, 253, 254, 255, 256, 262, 263, 264, 265, 526, 527, 528, 529, 530, 531, 532, 533, 534, 535, 536, 537, 538, 539, 553, 554, 555, 556, 557, 558, 559, 560, 561, 540, 541, 542, 543, 544, 545, 546, 547, 548, 549, 550, 551, 552, 562, 563, 564] (by decide +kernel) (by decide +kernel)) (goodIn_sub (fun _ h => List.mem_cons_of_mem _ (List.mem_append_right _ h)) (by decide +kernel))
set_option maxRecDepth 20000 in
theorem gX4_read_X8_passMinutes : GoodIn wsX4_read (wsV RX4 65 RX8 yX8_passMinutes wsX8_passMinutes) := goodIn_app (goodIn_of _ (by decide +kernel)) ggX4_read_X8_passMinutes
set_option maxRecDepth 20000 in
theorem ggX4_read_X4_readSetting : GoodIn wsX4_read wsX4_readSetting := goodIn_ca (goodIn_r _ [479, 1, 6, 171, 271, 480, 481, 5, 280, 482, 283, 483, 484, 485, 486, 487, 174, 175, 176, 78, 177, 81, 80, 161, 82, 178, 179, 180, 10, 181, 4, 15, 182, 183, 184, 185, 162, 186, 187, 188, 189, 297, 298, 299, 300, 301, 302, 303, 190, 191, 192, 193, 194, 195, 196, 197, 198, 199, 200, 201, 202, 163, 83, 84, 85, 488, 489, 490, 491, 173, 492, 493, 281, 494, 282, 495, 496, 497, 498, 326, 499, 500, 309, 310, 311, 19, 312, 21, 292, 229, 501, 502, 503, 164, 165, 504, 505, 506, 507, 508, 509, 510, 511, 512, 513, 514, 317, 318, 319, 320, 321, 336, 337, 338, 339, 340, 341, 342, 343, 344, 345, 172, 346, 347, 348, 349, 350, 351, 352, 353, 354, 355, 308, 356, 357, 358, 359, 360, 361, 362, 363, 515, 516, 517, 518, 519, 520, 521, 522, 523, 524, 525, 526, 527, 528, 529, 530, 531, 532, 533, 534, 535, 536, 537, 538, 539, 540, 541, 542, 543, 544, 545, 546, 547, 548, 549, 550, 551, 552, 565, 566, 567, 568, 569, 553, 554, 555, 556, 557, 558, 559, 560, 561] (by decide +kernel) (by decide +kernel)) (goodIn_sub (fun _ h => List.mem_cons_of_mem _ (List.mem_append_right _ h)) (by decide +kernel))
set_option maxRecDepth 20000 in
theorem gX4_read_X4_readSetting : GoodIn wsX4_read (wsV RX4 71 RX4 yX4_readSetting wsX4_readSetting) := goodIn_app (goodIn_of _ (by decide +kernel)) ggX4_read_X4_readSetting
theorem dX4_read_0 : decode cX4_read 0 = .ok (.aload_n 0, 1) := by decide +kernel
theorem dX4_read_1 : decode cX4_read 1 = .ok (.invokevirtual 36, 3) := by decide +kernel
theorem dX4_read_4 : decode cX4_read 4 = .ok (.aload_n 0, 1) := by decide +kernel
theorem dX4_read_5 : decode cX4_read 5 = .ok (.getfield 12, 3) := by decide +kernel
theorem dX4_read_8 : decode cX4_read 8 = .ok (.aload_n 1, 1) := by decide +kernel
theorem dX4_read_9 : decode cX4_read 9 = .ok (.iload_n 2, 1) := by decide +kernel
theorem dX4_read_10 : decode cX4_read 10 = .ok (.invokevirtual 39, 3) := by decide +kernel
theorem dX4_read_13 : decode cX4_read 13 = .ok (.aload_n 0, 1) := by decide +kernel
theorem dX4_read_14 : decode cX4_read 14 = .ok (.invokevirtual 43, 3) := by decide +kernel
theorem dX4_read_17 : decode cX4_read 17 = .ok (.iconst 0, 1) := by decide +kernel
theorem dX4_read_18 : decode cX4_read 18 = .ok (.istore_n 3, 1) := by decide +kernel
theorem dX4_read_19 : decode cX4_read 19 = .ok (.iload_n 3, 1) := by decide +kernel
theorem dX4_read_20 : decode cX4_read 20 = .ok (.ldc 46, 2) := by decide +kernel
theorem dX4_read_22 : decode cX4_read 22 = .ok (.if_icmp .ge 62, 3) := by decide +kernel
theorem dX4_read_25 : decode cX4_read 25 = .ok (.aload_n 0, 1) := by decide +kernel
theorem dX4_read_26 : decode cX4_read 26 = .ok (.getfield 47, 3) := by decide +kernel
theorem dX4_read_29 : decode cX4_read 29 = .ok (.ifCond .ne 55, 3) := by decide +kernel
theorem dX4_read_32 : decode cX4_read 32 = .ok (.aload_n 0, 1) := by decide +kernel
theorem dX4_read_33 : decode cX4_read 33 = .ok (.getfield 29, 3) := by decide +kernel
theorem dX4_read_36 : decode cX4_read 36 = .ok (.ifCond .ne 48, 3) := by decide +kernel
theorem dX4_read_39 : decode cX4_read 39 = .ok (.aload_n 0, 1) := by decide +kernel
theorem dX4_read_40 : decode cX4_read 40 = .ok (.getfield 51, 3) := by decide +kernel
theorem dX4_read_43 : decode cX4_read 43 = .ok (.ifCond .ne 10, 3) := by decide +kernel
theorem dX4_read_46 : decode cX4_read 46 = .ok (.aload_n 0, 1) := by decide +kernel
theorem dX4_read_47 : decode cX4_read 47 = .ok (.invokevirtual 54, 3) := by decide +kernel
theorem dX4_read_50 : decode cX4_read 50 = .ok (.goto 28, 3) := by decide +kernel
theorem dX4_read_53 : decode cX4_read 53 = .ok (.aload_n 0, 1) := by decide +kernel
theorem dX4_read_54 : decode cX4_read 54 = .ok (.invokevirtual 57, 3) := by decide +kernel
theorem dX4_read_57 : decode cX4_read 57 = .ok (.ifCond .eq 17, 3) := by decide +kernel
theorem dX4_read_60 : decode cX4_read 60 = .ok (.aload_n 0, 1) := by decide +kernel
theorem dX4_read_61 : decode cX4_read 61 = .ok (.getfield 25, 3) := by decide +kernel
theorem dX4_read_64 : decode cX4_read 64 = .ok (.aload_n 0, 1) := by decide +kernel
theorem dX4_read_65 : decode cX4_read 65 = .ok (.invokevirtual 61, 3) := by decide +kernel
theorem dX4_read_68 : decode cX4_read 68 = .ok (.invokevirtual 65, 3) := by decide +kernel
theorem dX4_read_71 : decode cX4_read 71 = .ok (.goto 7, 3) := by decide +kernel
theorem dX4_read_74 : decode cX4_read 74 = .ok (.aload_n 0, 1) := by decide +kernel
theorem dX4_read_75 : decode cX4_read 75 = .ok (.invokevirtual 71, 3) := by decide +kernel
theorem dX4_read_78 : decode cX4_read 78 = .ok (.iinc 3 1, 3) := by decide +kernel
theorem dX4_read_81 : decode cX4_read 81 = .ok (.goto (-62), 3) := by decide +kernel
theorem dX4_read_84 : decode cX4_read 84 = .ok (.aload_n 0, 1) := by decide +kernel
theorem dX4_read_85 : decode cX4_read 85 = .ok (.getfield 29, 3) := by decide +kernel
theorem dX4_read_88 : decode cX4_read 88 = .ok (.ifCond .ne 7, 3) := by decide +kernel
theorem dX4_read_91 : decode cX4_read 91 = .ok (.iconst 1, 1) := by decide +kernel
theorem dX4_read_92 : decode cX4_read 92 = .ok (.goto 4, 3) := by decide +kernel
theorem dX4_read_95 : decode cX4_read 95 = .ok (.iconst 0, 1) := by decide +kernel
theorem dX4_read_96 : decode cX4_read 96 = .ok (.ireturn, 1) := by decide +kernel
set_option maxRecDepth 20000 in
theorem ggX4_restart_X8_reset : GoodIn wsX4_restart wsX8_reset := goodIn_r _ [13, 14, 15, 16, 17, 18, 19, 20, 21, 22, 23, 24, 25, 26, 27, 28, 29, 30, 31, 32, 33, 34, 35, 36, 37, 38, 39, 40, 41, 42, 43, 44, 45, 46, 47, 48, 49, 50, 51, 52, 53, 54, 55, 56, 57, 58, 59, 60, 61, 62, 63, 64, 65, 66, 67, 79, 80, 81, 82, 83, 84, 85, 86, 87, 88, 89, 90, 91, 92, 93, 94, 95, 96, 97, 98, 99, 100, 101, 102, 103, 104, 105, 106, 107, 108, 109, 110, 111, 112, 113, 114, 115, 116, 117] (by decide +kernel) (by decide +kernel)
set_option maxRecDepth 20000 in
theorem gX4_restart_X8_reset : GoodIn wsX4_restart (wsV RX4 74 RX8 yX8_reset wsX8_reset) := goodIn_app (goodIn_of _ (by decide +kernel)) ggX4_restart_X8_reset
theorem dX4_restart_0 : decode cX4_restart 0 = .ok (.aload_n 0, 1) := by decide +kernel
theorem dX4_restart_1 : decode cX4_restart 1 = .ok (.getfield 25, 3) := by decide +kernel
theorem dX4_restart_4 : decode cX4_restart 4 = .ok (.invokevirtual 74, 3) := by decide +kernel
theorem dX4_restart_7 : decode cX4_restart 7 = .ok (.aload_n 0, 1) := by decide +kernel
theorem dX4_restart_8 : decode cX4_restart 8 = .ok (.iconst 0, 1) := by decide +kernel
theorem dX4_restart_9 : decode cX4_restart 9 = .ok (.putfield 77, 3) := by decide +kernel
theorem dX4_restart_12 : decode cX4_restart 12 = .ok (.aload_n 0, 1) := by decide +kernel
theorem dX4_restart_13 : decode cX4_restart 13 = .ok (.iconst 0, 1) := by decide +kernel
theorem dX4_restart_14 : decode cX4_restart 14 = .ok (.putfield 80, 3) := by decide +kernel
theorem dX4_restart_17 : decode cX4_restart 17 = .ok (.aload_n 0, 1) := by decide +kernel
theorem dX4_restart_18 : decode cX4_restart 18 = .ok (.iconst 0, 1) := by decide +kernel
theorem dX4_restart_19 : decode cX4_restart 19 = .ok (.putfield 51, 3) := by decide +kernel
theorem dX4_restart_22 : decode cX4_restart 22 = .ok (.aload_n 0, 1) := by decide +kernel
theorem dX4_restart_23 : decode cX4_restart 23 = .ok (.iconst 0, 1) := by decide +kernel
theorem dX4_restart_24 : decode cX4_restart 24 = .ok (.putfield 83, 3) := by decide +kernel
theorem dX4_restart_27 : decode cX4_restart 27 = .ok (.aload_n 0, 1) := by decide +kernel
theorem dX4_restart_28 : decode cX4_restart 28 = .ok (.iconst 0, 1) := by decide +kernel
theorem dX4_restart_29 : decode cX4_restart 29 = .ok (.putfield 47, 3) := by decide +kernel
theorem dX4_restart_32 : decode cX4_restart 32 = .ok (.aload_n 0, 1) := by decide +kernel
theorem dX4_restart_33 : decode cX4_restart 33 = .ok (.iconst 0, 1) := by decide +kernel
theorem dX4_restart_34 : decode cX4_restart 34 = .ok (.putfield 29, 3) := by decide +kernel
theorem dX4_restart_37 : decode cX4_restart 37 = .ok (.aload_n 0, 1) := by decide +kernel
theorem dX4_restart_38 : decode cX4_restart 38 = .ok (.iconst (-1), 1) := by decide +kernel
theorem dX4_restart_39 : decode cX4_restart 39 = .ok (.putfield 33, 3) := by decide +kernel
theorem dX4_restart_42 : decode cX4_restart 42 = .ok (.return_, 1) := by decide +kernel
set_option maxRecDepth 20000 in
theorem ggX4_fail_X6_start : GoodIn wsX4_fail wsX6_start := goodIn_ca (goodIn_r _ [8, 9, 10, 22, 23, 24, 25, 26] (by decide +kernel) (by decide +kernel)) (goodIn_sub (fun _ h => List.mem_cons_of_mem _ (List.mem_append_right _ h)) (by decide +kernel))
set_option maxRecDepth 20000 in
theorem gX4_fail_X6_start : GoodIn wsX4_fail (wsV RX4 86 RX6 yX6_start wsX6_start) := goodIn_app (goodIn_of _ (by decide +kernel)) ggX4_fail_X6_start
theorem dX4_fail_0 : decode cX4_fail 0 = .ok (.aload_n 0, 1) := by decide +kernel
theorem dX4_fail_1 : decode cX4_fail 1 = .ok (.iload_n 1, 1) := by decide +kernel
theorem dX4_fail_2 : decode cX4_fail 2 = .ok (.putfield 29, 3) := by decide +kernel
theorem dX4_fail_5 : decode cX4_fail 5 = .ok (.aload_n 0, 1) := by decide +kernel
theorem dX4_fail_6 : decode cX4_fail 6 = .ok (.aload_n 0, 1) := by decide +kernel
theorem dX4_fail_7 : decode cX4_fail 7 = .ok (.getfield 12, 3) := by decide +kernel
theorem dX4_fail_10 : decode cX4_fail 10 = .ok (.invokevirtual 86, 3) := by decide +kernel
theorem dX4_fail_13 : decode cX4_fail 13 = .ok (.putfield 33, 3) := by decide +kernel
theorem dX4_fail_16 : decode cX4_fail 16 = .ok (.return_, 1) := by decide +kernel
set_option maxRecDepth 20000 in
theorem ggX4_number_X6_sign : GoodIn wsX4_number wsX6_sign := goodIn_r _ [7, 8, 9, 10, 11, 43, 44, 45, 46, 47] (by decide +kernel) (by decide +kernel)
set_option maxRecDepth 20000 in
theorem gX4_number_X6_sign : GoodIn wsX4_number (wsV RX4 89 RX6 yX6_sign wsX6_sign) := goodIn_app (goodIn_of _ (by decide +kernel)) ggX4_number_X6_sign
set_option maxRecDepth 20000 in
theorem ggX4_number_X4_fail : GoodIn wsX4_number wsX4_fail := goodIn_ca (goodIn_r _ [16, 17, 1, 18, 19, 20, 21, 6, 22, 8, 23, 32, 33, 34, 35, 36, 37, 38, 39, 40, 41, 42, 43, 44, 45, 46, 47] (by decide +kernel) (by decide +kernel)) (goodIn_sub (fun _ h => List.mem_cons_of_mem _ (List.mem_append_right _ h)) (by decide +kernel))
set_option maxRecDepth 20000 in
theorem gX4_number_X4_fail : GoodIn wsX4_number (wsV RX4 99 RX4 yX4_fail wsX4_fail) := goodIn_app (goodIn_of _ (by decide +kernel)) ggX4_number_X4_fail
set_option maxRecDepth 20000 in
theorem ggX4_number_X6_number : GoodIn wsX4_number wsX6_number := goodIn_ca (goodIn_r _ [27, 28, 8, 29, 30, 31, 43, 44, 45, 46, 47] (by decide +kernel) (by decide +kernel)) (goodIn_sub (fun _ h => List.mem_cons_of_mem _ (List.mem_append_right _ h)) (by decide +kernel))
set_option maxRecDepth 20000 in
theorem gX4_number_X6_number : GoodIn wsX4_number (wsV RX4 102 RX6 yX6_number wsX6_number) := goodIn_app (goodIn_of _ (by decide +kernel)) ggX4_number_X6_number
theorem dX4_number_0 : decode cX4_number 0 = .ok (.aload_n 0, 1) := by decide +kernel
theorem dX4_number_1 : decode cX4_number 1 = .ok (.getfield 12, 3) := by decide +kernel
theorem dX4_number_4 : decode cX4_number 4 = .ok (.invokevirtual 89, 3) := by decide +kernel
theorem dX4_number_7 : decode cX4_number 7 = .ok (.getstatic 93, 3) := by decide +kernel
theorem dX4_number_10 : decode cX4_number 10 = .ok (.if_acmp .eq 10, 3) := by decide +kernel
theorem dX4_number_13 : decode cX4_number 13 = .ok (.aload_n 0, 1) := by decide +kernel
theorem dX4_number_14 : decode cX4_number 14 = .ok (.iconst 1, 1) := by decide +kernel
theorem dX4_number_15 : decode cX4_number 15 = .ok (.invokevirtual 99, 3) := by decide +kernel
theorem dX4_number_18 : decode cX4_number 18 = .ok (.iconst (-1), 1) := by decide +kernel
theorem dX4_number_19 : decode cX4_number 19 = .ok (.ireturn, 1) := by decide +kernel
theorem dX4_number_20 : decode cX4_number 20 = .ok (.aload_n 0, 1) := by decide +kernel
theorem dX4_number_21 : decode cX4_number 21 = .ok (.getfield 12, 3) := by decide +kernel
theorem dX4_number_24 : decode cX4_number 24 = .ok (.invokevirtual 102, 3) := by decide +kernel
theorem dX4_number_27 : decode cX4_number 27 = .ok (.istore_n 3, 1) := by decide +kernel
theorem dX4_number_28 : decode cX4_number 28 = .ok (.iload_n 3, 1) := by decide +kernel
theorem dX4_number_29 : decode cX4_number 29 = .ok (.iload_n 1, 1) := by decide +kernel
theorem dX4_number_30 : decode cX4_number 30 = .ok (.if_icmp .lt 8, 3) := by decide +kernel
theorem dX4_number_33 : decode cX4_number 33 = .ok (.iload_n 3, 1) := by decide +kernel
theorem dX4_number_34 : decode cX4_number 34 = .ok (.iload_n 2, 1) := by decide +kernel
theorem dX4_number_35 : decode cX4_number 35 = .ok (.if_icmp .le 10, 3) := by decide +kernel
theorem dX4_number_38 : decode cX4_number 38 = .ok (.aload_n 0, 1) := by decide +kernel
theorem dX4_number_39 : decode cX4_number 39 = .ok (.iconst 2, 1) := by decide +kernel
theorem dX4_number_40 : decode cX4_number 40 = .ok (.invokevirtual 99, 3) := by decide +kernel
theorem dX4_number_43 : decode cX4_number 43 = .ok (.iconst (-1), 1) := by decide +kernel
theorem dX4_number_44 : decode cX4_number 44 = .ok (.ireturn, 1) := by decide +kernel
theorem dX4_number_45 : decode cX4_number 45 = .ok (.iload_n 3, 1) := by decide +kernel
theorem dX4_number_46 : decode cX4_number 46 = .ok (.ireturn, 1) := by decide +kernel
set_option maxRecDepth 20000 in
theorem ggX4_takeNumber_X4_number : GoodIn wsX4_takeNumber wsX4_number := goodIn_ca (goodIn_r _ [6, 1, 7, 8, 9, 10, 11, 12, 13, 14, 15, 16, 17, 18, 19, 5, 20, 21, 22, 23, 24, 25, 26, 27, 28, 29, 30, 31, 32, 33, 34, 35, 40, 41, 42, 43, 44, 45, 46, 47, 48, 49, 50, 51, 52, 53, 54, 55] (by decide +kernel) (by decide +kernel)) (goodIn_sub (fun _ h => List.mem_cons_of_mem _ (List.mem_append_right _ h)) (by decide +kernel))
set_option maxRecDepth 20000 in
theorem gX4_takeNumber_X4_number : GoodIn wsX4_takeNumber (wsV RX4 105 RX4 yX4_number wsX4_number) := goodIn_app (goodIn_of _ (by decide +kernel)) ggX4_takeNumber_X4_number
set_option maxRecDepth 20000 in
theorem ggX4_takeNumber_X6_goOn : GoodIn wsX4_takeNumber wsX6_goOn := goodIn_r _ [39, 13, 14, 51, 52, 53, 54, 55] (by decide +kernel) (by decide +kernel)
set_option maxRecDepth 20000 in
theorem gX4_takeNumber_X6_goOn : GoodIn wsX4_takeNumber (wsV RX4 108 RX6 yX6_goOn wsX6_goOn) := goodIn_app (goodIn_of _ (by decide +kernel)) ggX4_takeNumber_X6_goOn
theorem dX4_takeNumber_0 : decode cX4_takeNumber 0 = .ok (.aload_n 0, 1) := by decide +kernel
theorem dX4_takeNumber_1 : decode cX4_takeNumber 1 = .ok (.iload_n 1, 1) := by decide +kernel
theorem dX4_takeNumber_2 : decode cX4_takeNumber 2 = .ok (.iload_n 2, 1) := by decide +kernel
theorem dX4_takeNumber_3 : decode cX4_takeNumber 3 = .ok (.invokevirtual 105, 3) := by decide +kernel
theorem dX4_takeNumber_6 : decode cX4_takeNumber 6 = .ok (.istore_n 3, 1) := by decide +kernel
theorem dX4_takeNumber_7 : decode cX4_takeNumber 7 = .ok (.iload_n 3, 1) := by decide +kernel
theorem dX4_takeNumber_8 : decode cX4_takeNumber 8 = .ok (.iconst (-1), 1) := by decide +kernel
theorem dX4_takeNumber_9 : decode cX4_takeNumber 9 = .ok (.if_icmp .eq 10, 3) := by decide +kernel
theorem dX4_takeNumber_12 : decode cX4_takeNumber 12 = .ok (.aload_n 0, 1) := by decide +kernel
theorem dX4_takeNumber_13 : decode cX4_takeNumber 13 = .ok (.getfield 12, 3) := by decide +kernel
theorem dX4_takeNumber_16 : decode cX4_takeNumber 16 = .ok (.invokevirtual 108, 3) := by decide +kernel
theorem dX4_takeNumber_19 : decode cX4_takeNumber 19 = .ok (.iload_n 3, 1) := by decide +kernel
theorem dX4_takeNumber_20 : decode cX4_takeNumber 20 = .ok (.ireturn, 1) := by decide +kernel
set_option maxRecDepth 20000 in
theorem ggX4_readFloor_X6_sign : GoodIn wsX4_readFloor wsX6_sign := goodIn_r _ [11, 12, 13, 14, 15, 87, 88, 89, 90, 91] (by decide +kernel) (by decide +kernel)
set_option maxRecDepth 20000 in
theorem gX4_readFloor_X6_sign : GoodIn wsX4_readFloor (wsV RX4 89 RX6 yX6_sign wsX6_sign) := goodIn_app (goodIn_of _ (by decide +kernel)) ggX4_readFloor_X6_sign
set_option maxRecDepth 20000 in
theorem ggX4_readFloor_X4_fail : GoodIn wsX4_readFloor wsX4_fail := goodIn_ca (goodIn_r _ [20, 21, 1, 22, 23, 24, 25, 10, 26, 12, 27, 49, 50, 51, 52, 53, 54, 55, 56, 57, 58, 59, 87, 88, 89, 90, 91] (by decide +kernel) (by decide +kernel)) (goodIn_sub (fun _ h => List.mem_cons_of_mem _ (List.mem_append_right _ h)) (by decide +kernel))
set_option maxRecDepth 20000 in
theorem gX4_readFloor_X4_fail : GoodIn wsX4_readFloor (wsV RX4 99 RX4 yX4_fail wsX4_fail) := goodIn_app (goodIn_of _ (by decide +kernel)) ggX4_readFloor_X4_fail
set_option maxRecDepth 20000 in
theorem ggX4_readFloor_X6_goOn : GoodIn wsX4_readFloor wsX6_goOn := goodIn_r _ [31, 12, 13, 87, 88, 89, 90, 91] (by decide +kernel) (by decide +kernel)
set_option maxRecDepth 20000 in
theorem gX4_readFloor_X6_goOn : GoodIn wsX4_readFloor (wsV RX4 108 RX6 yX6_goOn wsX6_goOn) := goodIn_app (goodIn_of _ (by decide +kernel)) ggX4_readFloor_X6_goOn
set_option maxRecDepth 20000 in
theorem ggX4_readFloor_X4_takeNumber : GoodIn wsX4_readFloor wsX4_takeNumber := goodIn_ca (goodIn_r _ [35, 1, 36, 37, 38, 19, 39, 40, 7, 8, 9, 10, 11, 12, 13, 14, 15, 16, 17, 18, 20, 21, 22, 23, 24, 25, 26, 27, 41, 42, 43, 44, 45, 46, 47, 48, 28, 29, 30, 31, 49, 50, 51, 52, 53, 54, 55, 56, 57, 58, 59, 87, 88, 89, 90, 91] (by decide +kernel) (by decide +kernel)) (goodIn_sub (fun _ h => List.mem_cons_of_mem _ (List.mem_append_right _ h)) (by decide +kernel))
set_option maxRecDepth 20000 in
theorem gX4_readFloor_X4_takeNumber : GoodIn wsX4_readFloor (wsV RX4 114 RX4 yX4_takeNumber wsX4_takeNumber) := goodIn_app (goodIn_of _ (by decide +kernel)) ggX4_readFloor_X4_takeNumber
theorem dX4_readFloor_0 : decode cX4_readFloor 0 = .ok (.aload_n 0, 1) := by decide +kernel
theorem dX4_readFloor_1 : decode cX4_readFloor 1 = .ok (.getfield 12, 3) := by decide +kernel
theorem dX4_readFloor_4 : decode cX4_readFloor 4 = .ok (.invokevirtual 89, 3) := by decide +kernel
theorem dX4_readFloor_7 : decode cX4_readFloor 7 = .ok (.getstatic 111, 3) := by decide +kernel
theorem dX4_readFloor_10 : decode cX4_readFloor 10 = .ok (.if_acmp .eq 9, 3) := by decide +kernel
theorem dX4_readFloor_13 : decode cX4_readFloor 13 = .ok (.aload_n 0, 1) := by decide +kernel
theorem dX4_readFloor_14 : decode cX4_readFloor 14 = .ok (.iconst 1, 1) := by decide +kernel
theorem dX4_readFloor_15 : decode cX4_readFloor 15 = .ok (.invokevirtual 99, 3) := by decide +kernel
theorem dX4_readFloor_18 : decode cX4_readFloor 18 = .ok (.return_, 1) := by decide +kernel
theorem dX4_readFloor_19 : decode cX4_readFloor 19 = .ok (.aload_n 0, 1) := by decide +kernel
theorem dX4_readFloor_20 : decode cX4_readFloor 20 = .ok (.getfield 12, 3) := by decide +kernel
theorem dX4_readFloor_23 : decode cX4_readFloor 23 = .ok (.invokevirtual 108, 3) := by decide +kernel
theorem dX4_readFloor_26 : decode cX4_readFloor 26 = .ok (.aload_n 0, 1) := by decide +kernel
theorem dX4_readFloor_27 : decode cX4_readFloor 27 = .ok (.iconst 2, 1) := by decide +kernel
theorem dX4_readFloor_28 : decode cX4_readFloor 28 = .ok (.bipush 8, 2) := by decide +kernel
theorem dX4_readFloor_30 : decode cX4_readFloor 30 = .ok (.invokevirtual 114, 3) := by decide +kernel
theorem dX4_readFloor_33 : decode cX4_readFloor 33 = .ok (.istore_n 1, 1) := by decide +kernel
theorem dX4_readFloor_34 : decode cX4_readFloor 34 = .ok (.iload_n 1, 1) := by decide +kernel
theorem dX4_readFloor_35 : decode cX4_readFloor 35 = .ok (.iconst (-1), 1) := by decide +kernel
theorem dX4_readFloor_36 : decode cX4_readFloor 36 = .ok (.if_icmp .ne 7, 3) := by decide +kernel
theorem dX4_readFloor_39 : decode cX4_readFloor 39 = .ok (.iconst (-1), 1) := by decide +kernel
theorem dX4_readFloor_40 : decode cX4_readFloor 40 = .ok (.goto 10, 3) := by decide +kernel
theorem dX4_readFloor_43 : decode cX4_readFloor 43 = .ok (.aload_n 0, 1) := by decide +kernel
theorem dX4_readFloor_44 : decode cX4_readFloor 44 = .ok (.iconst 2, 1) := by decide +kernel
theorem dX4_readFloor_45 : decode cX4_readFloor 45 = .ok (.bipush 10, 2) := by decide +kernel
theorem dX4_readFloor_47 : decode cX4_readFloor 47 = .ok (.invokevirtual 114, 3) := by decide +kernel
theorem dX4_readFloor_50 : decode cX4_readFloor 50 = .ok (.istore_n 2, 1) := by decide +kernel
theorem dX4_readFloor_51 : decode cX4_readFloor 51 = .ok (.iload_n 2, 1) := by decide +kernel
theorem dX4_readFloor_52 : decode cX4_readFloor 52 = .ok (.iconst (-1), 1) := by decide +kernel
theorem dX4_readFloor_53 : decode cX4_readFloor 53 = .ok (.if_icmp .eq 25, 3) := by decide +kernel
theorem dX4_readFloor_56 : decode cX4_readFloor 56 = .ok (.aload_n 0, 1) := by decide +kernel
theorem dX4_readFloor_57 : decode cX4_readFloor 57 = .ok (.getfield 25, 3) := by decide +kernel
theorem dX4_readFloor_60 : decode cX4_readFloor 60 = .ok (.getfield 117, 3) := by decide +kernel
theorem dX4_readFloor_63 : decode cX4_readFloor 63 = .ok (.iload_n 1, 1) := by decide +kernel
theorem dX4_readFloor_64 : decode cX4_readFloor 64 = .ok (.putfield 121, 3) := by decide +kernel
theorem dX4_readFloor_67 : decode cX4_readFloor 67 = .ok (.aload_n 0, 1) := by decide +kernel
theorem dX4_readFloor_68 : decode cX4_readFloor 68 = .ok (.getfield 25, 3) := by decide +kernel
theorem dX4_readFloor_71 : decode cX4_readFloor 71 = .ok (.getfield 117, 3) := by decide +kernel
theorem dX4_readFloor_74 : decode cX4_readFloor 74 = .ok (.iload_n 2, 1) := by decide +kernel
theorem dX4_readFloor_75 : decode cX4_readFloor 75 = .ok (.putfield 126, 3) := by decide +kernel
theorem dX4_readFloor_78 : decode cX4_readFloor 78 = .ok (.return_, 1) := by decide +kernel
set_option maxRecDepth 20000 in
theorem ggX4_readSeparator_X6_sign : GoodIn wsX4_readSeparator wsX6_sign := goodIn_r _ [11, 12, 13, 14, 15, 116, 117, 118, 119, 120] (by decide +kernel) (by decide +kernel)
set_option maxRecDepth 20000 in
theorem gX4_readSeparator_X6_sign : GoodIn wsX4_readSeparator (wsV RX4 89 RX6 yX6_sign wsX6_sign) := goodIn_app (goodIn_of _ (by decide +kernel)) ggX4_readSeparator_X6_sign
set_option maxRecDepth 20000 in
theorem ggX4_readSeparator_X6_goOn : GoodIn wsX4_readSeparator wsX6_goOn := goodIn_r _ [19, 12, 13, 116, 117, 118, 119, 120] (by decide +kernel) (by decide +kernel)
set_option maxRecDepth 20000 in
theorem gX4_readSeparator_X6_goOn : GoodIn wsX4_readSeparator (wsV RX4 108 RX6 yX6_goOn wsX6_goOn) := goodIn_app (goodIn_of _ (by decide +kernel)) ggX4_readSeparator_X6_goOn
set_option maxRecDepth 20000 in
theorem ggX4_readSeparator_X4_closeBracket : GoodIn wsX4_readSeparator wsX4_closeBracket := goodIn_ca (goodIn_r _ [24, 5, 25, 1, 26, 3, 27, 28, 29, 30, 31, 32, 33, 34, 10, 35, 12, 16, 17, 18, 19, 13, 105, 106, 107, 108, 109, 110, 111, 112, 113, 114, 115, 116, 117, 118, 119, 120] (by decide +kernel) (by decide +kernel)) (goodIn_sub (fun _ h => List.mem_cons_of_mem _ (List.mem_append_right _ h)) (by decide +kernel))
set_option maxRecDepth 20000 in
theorem gX4_readSeparator_X4_closeBracket : GoodIn wsX4_readSeparator (wsV RX4 135 RX4 yX4_closeBracket wsX4_closeBracket) := goodIn_app (goodIn_of _ (by decide +kernel)) ggX4_readSeparator_X4_closeBracket
set_option maxRecDepth 20000 in
theorem ggX4_readSeparator_X4_finish : GoodIn wsX4_readSeparator wsX4_finish := goodIn_ca (goodIn_r _ [39, 40, 41, 42, 43, 44, 45, 46, 47, 48, 49, 50, 51, 52, 53, 54, 55, 56, 57, 58, 59, 60, 61, 62, 63, 64, 65, 66, 67, 68, 69, 70, 71, 72, 73, 74, 75, 76, 77, 78, 79, 80, 81, 82, 83, 84, 85, 86, 87, 88, 27, 28, 29, 89, 90, 91, 92, 93, 105, 106, 107, 108, 109, 110, 111, 112, 113, 114, 115, 121, 122, 123, 124, 125, 126, 127, 128, 129, 130, 131, 132, 133, 134, 135, 136, 137, 138, 139, 140, 141, 142, 143, 144, 145, 146, 147, 148, 149, 150, 151, 152, 153, 154, 155, 156] (by decide +kernel) (by decide +kernel)) (goodIn_sub (fun _ h => List.mem_cons_of_mem _ (List.mem_append_right _ h)) (by decide +kernel))
set_option maxRecDepth 20000 in
theorem gX4_readSeparator_X4_finish : GoodIn wsX4_readSeparator (wsV RX4 141 RX4 yX4_finish wsX4_finish) := goodIn_app (goodIn_of _ (by decide +kernel)) ggX4_readSeparator_X4_finish
set_option maxRecDepth 20000 in
theorem ggX4_readSeparator_X4_fail : GoodIn wsX4_readSeparator wsX4_fail := goodIn_ca (goodIn_r _ [97, 98, 1, 99, 100, 101, 102, 10, 103, 12, 104, 105, 106, 107, 108, 109, 110, 111, 112, 113, 114, 115, 116, 117, 118, 119, 120] (by decide +kernel) (by decide +kernel)) (goodIn_sub (fun _ h => List.mem_cons_of_mem _ (List.mem_append_right _ h)) (by decide +kernel))
set_option maxRecDepth 20000 in
theorem gX4_readSeparator_X4_fail : GoodIn wsX4_readSeparator (wsV RX4 99 RX4 yX4_fail wsX4_fail) := goodIn_app (goodIn_of _ (by decide +kernel)) ggX4_readSeparator_X4_fail
theorem dX4_readSeparator_0 : decode cX4_readSeparator 0 = .ok (.aload_n 0, 1) := by decide +kernel
theorem dX4_readSeparator_1 : decode cX4_readSeparator 1 = .ok (.getfield 12, 3) := by decide +kernel
theorem dX4_readSeparator_4 : decode cX4_readSeparator 4 = .ok (.invokevirtual 89, 3) := by decide +kernel
theorem dX4_readSeparator_7 : decode cX4_readSeparator 7 = .ok (.astore_n 1, 1) := by decide +kernel
theorem dX4_readSeparator_8 : decode cX4_readSeparator 8 = .ok (.aload_n 1, 1) := by decide +kernel
theorem dX4_readSeparator_9 : decode cX4_readSeparator 9 = .ok (.getstatic 129, 3) := by decide +kernel
theorem dX4_readSeparator_12 : decode cX4_readSeparator 12 = .ok (.if_acmp .ne 18, 3) := by decide +kernel
theorem dX4_readSeparator_15 : decode cX4_readSeparator 15 = .ok (.aload_n 0, 1) := by decide +kernel
theorem dX4_readSeparator_16 : decode cX4_readSeparator 16 = .ok (.getfield 12, 3) := by decide +kernel
theorem dX4_readSeparator_19 : decode cX4_readSeparator 19 = .ok (.invokevirtual 108, 3) := by decide +kernel
theorem dX4_readSeparator_22 : decode cX4_readSeparator 22 = .ok (.aload_n 0, 1) := by decide +kernel
theorem dX4_readSeparator_23 : decode cX4_readSeparator 23 = .ok (.iconst 1, 1) := by decide +kernel
theorem dX4_readSeparator_24 : decode cX4_readSeparator 24 = .ok (.putfield 51, 3) := by decide +kernel
theorem dX4_readSeparator_27 : decode cX4_readSeparator 27 = .ok (.goto 50, 3) := by decide +kernel
theorem dX4_readSeparator_30 : decode cX4_readSeparator 30 = .ok (.aload_n 1, 1) := by decide +kernel
theorem dX4_readSeparator_31 : decode cX4_readSeparator 31 = .ok (.getstatic 132, 3) := by decide +kernel
theorem dX4_readSeparator_34 : decode cX4_readSeparator 34 = .ok (.if_acmp .ne 17, 3) := by decide +kernel
theorem dX4_readSeparator_37 : decode cX4_readSeparator 37 = .ok (.aload_n 0, 1) := by decide +kernel
theorem dX4_readSeparator_38 : decode cX4_readSeparator 38 = .ok (.getfield 77, 3) := by decide +kernel
theorem dX4_readSeparator_41 : decode cX4_readSeparator 41 = .ok (.ifCond .le 10, 3) := by decide +kernel
theorem dX4_readSeparator_44 : decode cX4_readSeparator 44 = .ok (.aload_n 0, 1) := by decide +kernel
theorem dX4_readSeparator_45 : decode cX4_readSeparator 45 = .ok (.invokevirtual 135, 3) := by decide +kernel
theorem dX4_readSeparator_48 : decode cX4_readSeparator 48 = .ok (.goto 29, 3) := by decide +kernel
theorem dX4_readSeparator_51 : decode cX4_readSeparator 51 = .ok (.aload_n 1, 1) := by decide +kernel
theorem dX4_readSeparator_52 : decode cX4_readSeparator 52 = .ok (.getstatic 138, 3) := by decide +kernel
theorem dX4_readSeparator_55 : decode cX4_readSeparator 55 = .ok (.if_acmp .ne 17, 3) := by decide +kernel
theorem dX4_readSeparator_58 : decode cX4_readSeparator 58 = .ok (.aload_n 0, 1) := by decide +kernel
theorem dX4_readSeparator_59 : decode cX4_readSeparator 59 = .ok (.getfield 77, 3) := by decide +kernel
theorem dX4_readSeparator_62 : decode cX4_readSeparator 62 = .ok (.ifCond .ne 10, 3) := by decide +kernel
theorem dX4_readSeparator_65 : decode cX4_readSeparator 65 = .ok (.aload_n 0, 1) := by decide +kernel
theorem dX4_readSeparator_66 : decode cX4_readSeparator 66 = .ok (.invokevirtual 141, 3) := by decide +kernel
theorem dX4_readSeparator_69 : decode cX4_readSeparator 69 = .ok (.goto 8, 3) := by decide +kernel
theorem dX4_readSeparator_72 : decode cX4_readSeparator 72 = .ok (.aload_n 0, 1) := by decide +kernel
theorem dX4_readSeparator_73 : decode cX4_readSeparator 73 = .ok (.iconst 1, 1) := by decide +kernel
theorem dX4_readSeparator_74 : decode cX4_readSeparator 74 = .ok (.invokevirtual 99, 3) := by decide +kernel
theorem dX4_readSeparator_77 : decode cX4_readSeparator 77 = .ok (.return_, 1) := by decide +kernel
set_option maxRecDepth 20000 in
theorem ggX4_closeBracket_X9_at : GoodIn wsX4_closeBracket wsX9_at := goodIn_ca (goodIn_r _ [8] (by decide +kernel) (by decide +kernel)) (goodIn_sub (fun _ h => List.mem_cons_of_mem _ (List.mem_append_right _ h)) (by decide +kernel))
set_option maxRecDepth 20000 in
theorem gX4_closeBracket_X9_at_n144 : GoodIn wsX4_closeBracket (wsX9_at) := ggX4_closeBracket_X9_at
set_option maxRecDepth 20000 in
theorem ggX4_closeBracket_X9_put : GoodIn wsX4_closeBracket wsX9_put := goodIn_ca (goodIn_r _ [10] (by decide +kernel) (by decide +kernel)) (goodIn_sub (fun _ h => List.mem_cons_of_mem _ (List.mem_append_right _ h)) (by decide +kernel))
set_option maxRecDepth 20000 in
theorem gX4_closeBracket_X9_put_n148 : GoodIn wsX4_closeBracket (wsX9_put) := ggX4_closeBracket_X9_put
set_option maxRecDepth 20000 in
theorem ggX4_closeBracket_X6_goBackTo : GoodIn wsX4_closeBracket wsX6_goBackTo := goodIn_r _ [15, 16, 33, 34, 35, 36, 37] (by decide +kernel) (by decide +kernel)
set_option maxRecDepth 20000 in
theorem gX4_closeBracket_X6_goBackTo : GoodIn wsX4_closeBracket (wsV RX4 152 RX6 yX6_goBackTo wsX6_goBackTo) := goodIn_app (goodIn_of _ (by decide +kernel)) ggX4_closeBracket_X6_goBackTo
set_option maxRecDepth 20000 in
theorem ggX4_closeBracket_X6_goOn : GoodIn wsX4_closeBracket wsX6_goOn := goodIn_r _ [20, 16, 21, 33, 34, 35, 36, 37] (by decide +kernel) (by decide +kernel)
set_option maxRecDepth 20000 in
theorem gX4_closeBracket_X6_goOn : GoodIn wsX4_closeBracket (wsV RX4 108 RX6 yX6_goOn wsX6_goOn) := goodIn_app (goodIn_of _ (by decide +kernel)) ggX4_closeBracket_X6_goOn
theorem dX4_closeBracket_0 : decode cX4_closeBracket 0 = .ok (.aload_n 0, 1) := by decide +kernel
theorem dX4_closeBracket_1 : decode cX4_closeBracket 1 = .ok (.getfield 77, 3) := by decide +kernel
theorem dX4_closeBracket_4 : decode cX4_closeBracket 4 = .ok (.iconst 1, 1) := by decide +kernel
theorem dX4_closeBracket_5 : decode cX4_closeBracket 5 = .ok (.isub, 1) := by decide +kernel
theorem dX4_closeBracket_6 : decode cX4_closeBracket 6 = .ok (.istore_n 1, 1) := by decide +kernel
theorem dX4_closeBracket_7 : decode cX4_closeBracket 7 = .ok (.aload_n 0, 1) := by decide +kernel
theorem dX4_closeBracket_8 : decode cX4_closeBracket 8 = .ok (.getfield 22, 3) := by decide +kernel
theorem dX4_closeBracket_11 : decode cX4_closeBracket 11 = .ok (.iload_n 1, 1) := by decide +kernel
theorem dX4_closeBracket_12 : decode cX4_closeBracket 12 = .ok (.invokestatic 144, 3) := by decide +kernel
theorem dX4_closeBracket_15 : decode cX4_closeBracket 15 = .ok (.istore_n 2, 1) := by decide +kernel
theorem dX4_closeBracket_16 : decode cX4_closeBracket 16 = .ok (.iload_n 2, 1) := by decide +kernel
theorem dX4_closeBracket_17 : decode cX4_closeBracket 17 = .ok (.ifCond .le 37, 3) := by decide +kernel
theorem dX4_closeBracket_20 : decode cX4_closeBracket 20 = .ok (.aload_n 0, 1) := by decide +kernel
theorem dX4_closeBracket_21 : decode cX4_closeBracket 21 = .ok (.getfield 22, 3) := by decide +kernel
theorem dX4_closeBracket_24 : decode cX4_closeBracket 24 = .ok (.iload_n 1, 1) := by decide +kernel
theorem dX4_closeBracket_25 : decode cX4_closeBracket 25 = .ok (.iload_n 2, 1) := by decide +kernel
theorem dX4_closeBracket_26 : decode cX4_closeBracket 26 = .ok (.iconst 1, 1) := by decide +kernel
theorem dX4_closeBracket_27 : decode cX4_closeBracket 27 = .ok (.isub, 1) := by decide +kernel
theorem dX4_closeBracket_28 : decode cX4_closeBracket 28 = .ok (.invokestatic 148, 3) := by decide +kernel
theorem dX4_closeBracket_31 : decode cX4_closeBracket 31 = .ok (.aload_n 0, 1) := by decide +kernel
theorem dX4_closeBracket_32 : decode cX4_closeBracket 32 = .ok (.getfield 12, 3) := by decide +kernel
theorem dX4_closeBracket_35 : decode cX4_closeBracket 35 = .ok (.aload_n 0, 1) := by decide +kernel
theorem dX4_closeBracket_36 : decode cX4_closeBracket 36 = .ok (.getfield 18, 3) := by decide +kernel
theorem dX4_closeBracket_39 : decode cX4_closeBracket 39 = .ok (.iload_n 1, 1) := by decide +kernel
theorem dX4_closeBracket_40 : decode cX4_closeBracket 40 = .ok (.invokestatic 144, 3) := by decide +kernel
theorem dX4_closeBracket_43 : decode cX4_closeBracket 43 = .ok (.invokevirtual 152, 3) := by decide +kernel
theorem dX4_closeBracket_46 : decode cX4_closeBracket 46 = .ok (.aload_n 0, 1) := by decide +kernel
theorem dX4_closeBracket_47 : decode cX4_closeBracket 47 = .ok (.iconst 1, 1) := by decide +kernel
theorem dX4_closeBracket_48 : decode cX4_closeBracket 48 = .ok (.putfield 51, 3) := by decide +kernel
theorem dX4_closeBracket_51 : decode cX4_closeBracket 51 = .ok (.goto 20, 3) := by decide +kernel
theorem dX4_closeBracket_54 : decode cX4_closeBracket 54 = .ok (.aload_n 0, 1) := by decide +kernel
theorem dX4_closeBracket_55 : decode cX4_closeBracket 55 = .ok (.dup, 1) := by decide +kernel
theorem dX4_closeBracket_56 : decode cX4_closeBracket 56 = .ok (.getfield 77, 3) := by decide +kernel
theorem dX4_closeBracket_59 : decode cX4_closeBracket 59 = .ok (.iconst 1, 1) := by decide +kernel
theorem dX4_closeBracket_60 : decode cX4_closeBracket 60 = .ok (.isub, 1) := by decide +kernel
theorem dX4_closeBracket_61 : decode cX4_closeBracket 61 = .ok (.putfield 77, 3) := by decide +kernel
theorem dX4_closeBracket_64 : decode cX4_closeBracket 64 = .ok (.aload_n 0, 1) := by decide +kernel
theorem dX4_closeBracket_65 : decode cX4_closeBracket 65 = .ok (.getfield 12, 3) := by decide +kernel
theorem dX4_closeBracket_68 : decode cX4_closeBracket 68 = .ok (.invokevirtual 108, 3) := by decide +kernel
theorem dX4_closeBracket_71 : decode cX4_closeBracket 71 = .ok (.return_, 1) := by decide +kernel
set_option maxRecDepth 20000 in
theorem ggX4_finish_X8_relocate : GoodIn wsX4_finish wsX8_relocate := goodIn_ca (goodIn_r _ [8, 9, 10, 11, 12, 13, 14, 15, 16, 7, 17, 18, 19, 20, 21, 22, 23, 24, 25, 26, 27, 28, 29, 30, 31, 32, 33, 34, 35, 36, 37, 38, 39, 40, 41, 42, 43, 44, 45, 46, 47, 48, 49, 50, 51, 52, 53, 54, 55, 56, 57, 69, 70, 71, 72, 73, 74, 75, 76, 77, 78, 79, 80, 81, 82, 83, 84, 85, 86, 87, 88, 89, 90, 91, 92, 93, 94, 95, 96, 97, 98, 99, 100, 101, 102, 103, 104] (by decide +kernel) (by decide +kernel)) (goodIn_sub (fun _ h => List.mem_cons_of_mem _ (List.mem_append_right _ h)) (by decide +kernel))
set_option maxRecDepth 20000 in
theorem gX4_finish_X8_relocate : GoodIn wsX4_finish (wsV RX4 155 RX8 yX8_relocate wsX8_relocate) := goodIn_app (goodIn_of _ (by decide +kernel)) ggX4_finish_X8_relocate
theorem dX4_finish_0 : decode cX4_finish 0 = .ok (.aload_n 0, 1) := by decide +kernel
theorem dX4_finish_1 : decode cX4_finish 1 = .ok (.iconst 1, 1) := by decide +kernel
theorem dX4_finish_2 : decode cX4_finish 2 = .ok (.putfield 47, 3) := by decide +kernel
theorem dX4_finish_5 : decode cX4_finish 5 = .ok (.aload_n 0, 1) := by decide +kernel
theorem dX4_finish_6 : decode cX4_finish 6 = .ok (.getfield 83, 3) := by decide +kernel
theorem dX4_finish_9 : decode cX4_finish 9 = .ok (.ifCond .ne 10, 3) := by decide +kernel
theorem dX4_finish_12 : decode cX4_finish 12 = .ok (.aload_n 0, 1) := by decide +kernel
theorem dX4_finish_13 : decode cX4_finish 13 = .ok (.getfield 25, 3) := by decide +kernel
theorem dX4_finish_16 : decode cX4_finish 16 = .ok (.invokevirtual 155, 3) := by decide +kernel
theorem dX4_finish_19 : decode cX4_finish 19 = .ok (.return_, 1) := by decide +kernel
set_option maxRecDepth 20000 in
theorem ggX4_startsEvent_X6_sign : GoodIn wsX4_startsEvent wsX6_sign := goodIn_r _ [9, 10, 11, 12, 13, 25, 26, 27, 28, 29] (by decide +kernel) (by decide +kernel)
set_option maxRecDepth 20000 in
theorem gX4_startsEvent_X6_sign : GoodIn wsX4_startsEvent (wsV RX4 89 RX6 yX6_sign wsX6_sign) := goodIn_app (goodIn_of _ (by decide +kernel)) ggX4_startsEvent_X6_sign
theorem dX4_startsEvent_0 : decode cX4_startsEvent 0 = .ok (.aload_n 0, 1) := by decide +kernel
theorem dX4_startsEvent_1 : decode cX4_startsEvent 1 = .ok (.getfield 12, 3) := by decide +kernel
theorem dX4_startsEvent_4 : decode cX4_startsEvent 4 = .ok (.invokevirtual 89, 3) := by decide +kernel
theorem dX4_startsEvent_7 : decode cX4_startsEvent 7 = .ok (.astore_n 1, 1) := by decide +kernel
theorem dX4_startsEvent_8 : decode cX4_startsEvent 8 = .ok (.aload_n 0, 1) := by decide +kernel
theorem dX4_startsEvent_9 : decode cX4_startsEvent 9 = .ok (.getfield 83, 3) := by decide +kernel
theorem dX4_startsEvent_12 : decode cX4_startsEvent 12 = .ok (.ifCond .ne 17, 3) := by decide +kernel
theorem dX4_startsEvent_15 : decode cX4_startsEvent 15 = .ok (.aload_n 1, 1) := by decide +kernel
theorem dX4_startsEvent_16 : decode cX4_startsEvent 16 = .ok (.getfield 158, 3) := by decide +kernel
theorem dX4_startsEvent_19 : decode cX4_startsEvent 19 = .ok (.ifCond .eq 14, 3) := by decide +kernel
theorem dX4_startsEvent_22 : decode cX4_startsEvent 22 = .ok (.aload_n 1, 1) := by decide +kernel
theorem dX4_startsEvent_23 : decode cX4_startsEvent 23 = .ok (.getfield 161, 3) := by decide +kernel
theorem dX4_startsEvent_26 : decode cX4_startsEvent 26 = .ok (.ifCond .ne 7, 3) := by decide +kernel
theorem dX4_startsEvent_29 : decode cX4_startsEvent 29 = .ok (.iconst 1, 1) := by decide +kernel
theorem dX4_startsEvent_30 : decode cX4_startsEvent 30 = .ok (.goto 4, 3) := by decide +kernel
theorem dX4_startsEvent_33 : decode cX4_startsEvent 33 = .ok (.iconst 0, 1) := by decide +kernel
theorem dX4_startsEvent_34 : decode cX4_startsEvent 34 = .ok (.ireturn, 1) := by decide +kernel
set_option maxRecDepth 20000 in
theorem ggX4_readSetting_X6_sign : GoodIn wsX4_readSetting wsX6_sign := goodIn_r _ [20, 21, 22, 23, 24, 179, 180, 181, 182, 183] (by decide +kernel) (by decide +kernel)
set_option maxRecDepth 20000 in
theorem gX4_readSetting_X6_sign : GoodIn wsX4_readSetting (wsV RX4 89 RX6 yX6_sign wsX6_sign) := goodIn_app (goodIn_of _ (by decide +kernel)) ggX4_readSetting_X6_sign
set_option maxRecDepth 20000 in
theorem ggX4_readSetting_X4_fail : GoodIn wsX4_readSetting wsX4_fail := goodIn_ca (goodIn_r _ [29, 30, 1, 31, 32, 33, 34, 19, 35, 21, 36, 141, 142, 143, 144, 145, 146, 147, 148, 149, 150, 151, 179, 180, 181, 182, 183] (by decide +kernel) (by decide +kernel)) (goodIn_sub (fun _ h => List.mem_cons_of_mem _ (List.mem_append_right _ h)) (by decide +kernel))
set_option maxRecDepth 20000 in
theorem gX4_readSetting_X4_fail : GoodIn wsX4_readSetting (wsV RX4 99 RX4 yX4_fail wsX4_fail) := goodIn_app (goodIn_of _ (by decide +kernel)) ggX4_readSetting_X4_fail
set_option maxRecDepth 20000 in
theorem ggX4_readSetting_X6_goOn : GoodIn wsX4_readSetting wsX6_goOn := goodIn_r _ [40, 21, 22, 179, 180, 181, 182, 183] (by decide +kernel) (by decide +kernel)
set_option maxRecDepth 20000 in
theorem gX4_readSetting_X6_goOn : GoodIn wsX4_readSetting (wsV RX4 108 RX6 yX6_goOn wsX6_goOn) := goodIn_app (goodIn_of _ (by decide +kernel)) ggX4_readSetting_X6_goOn
set_option maxRecDepth 20000 in
theorem ggX4_readSetting_Jx29ce0_ordinal_8abf5 : GoodIn wsX4_readSetting wsJx29ce0_ordinal_8abf5 := goodIn_r _ [46, 47] (by decide +kernel) (by decide +kernel)
set_option maxRecDepth 20000 in
theorem gX4_readSetting_Jx29ce0_ordinal_8abf5_u175X5 : GoodIn wsX4_readSetting (va_wsU RX4 175 RX5 "java/lang/Enum" ⟨"MoonlitFloor$Sign", "ordinal", "()I"⟩ yJx29ce0_ordinal_8abf5 wsJx29ce0_ordinal_8abf5) := goodIn_app (goodIn_of _ (by decide +kernel)) ggX4_readSetting_Jx29ce0_ordinal_8abf5
set_option maxRecDepth 20000 in
theorem ggX4_readSetting_X4_takeNumber : GoodIn wsX4_readSetting wsX4_takeNumber := goodIn_ca (goodIn_r _ [51, 1, 52, 53, 54, 28, 55, 56, 16, 17, 18, 19, 20, 21, 22, 23, 24, 25, 26, 27, 29, 30, 31, 32, 33, 34, 35, 36, 57, 58, 59, 60, 61, 62, 63, 64, 37, 38, 39, 40, 141, 142, 143, 144, 145, 146, 147, 148, 149, 150, 151, 179, 180, 181, 182, 183] (by decide +kernel) (by decide +kernel)) (goodIn_sub (fun _ h => List.mem_cons_of_mem _ (List.mem_append_right _ h)) (by decide +kernel))
set_option maxRecDepth 20000 in
theorem gX4_readSetting_X4_takeNumber : GoodIn wsX4_readSetting (wsV RX4 114 RX4 yX4_takeNumber wsX4_takeNumber) := goodIn_app (goodIn_of _ (by decide +kernel)) ggX4_readSetting_X4_takeNumber
set_option maxRecDepth 20000 in
theorem ggX4_readSetting_X4_readWalker : GoodIn wsX4_readSetting wsX4_readWalker := goodIn_ca (goodIn_r _ [68, 2, 3, 69, 1, 70, 71, 72, 73, 74, 48, 49, 50, 28, 51, 52, 53, 54, 55, 56, 16, 17, 18, 19, 20, 21, 22, 23, 24, 25, 26, 27, 29, 30, 31, 32, 33, 34, 35, 36, 57, 58, 59, 60, 61, 62, 63, 64, 37, 38, 39, 40, 141, 142, 143, 144, 145, 146, 147, 148, 149, 150, 151, 152, 153, 154, 155, 156, 157, 158, 159, 160, 161, 162, 163, 164, 165, 166, 167, 168, 169, 170, 171, 172, 173, 174, 175, 176, 177, 178, 184, 185, 186, 187, 188, 189, 190, 191, 192, 179, 180, 181, 182, 183] (by decide +kernel) (by decide +kernel)) (goodIn_sub (fun _ h => List.mem_cons_of_mem _ (List.mem_append_right _ h)) (by decide +kernel))
set_option maxRecDepth 20000 in
theorem gX4_readSetting_X4_readWalker : GoodIn wsX4_readSetting (wsV RX4 199 RX4 yX4_readWalker wsX4_readWalker) := goodIn_app (goodIn_of _ (by decide +kernel)) ggX4_readSetting_X4_readWalker
set_option maxRecDepth 20000 in
theorem ggX4_readSetting_X4_readCat : GoodIn wsX4_readSetting wsX4_readCat := goodIn_ca (goodIn_r _ [78, 2, 79, 3, 80, 1, 81, 82, 83, 84, 85, 86, 87, 88, 89, 48, 49, 50, 28, 51, 52, 53, 54, 55, 56, 16, 17, 18, 19, 20, 21, 22, 23, 24, 25, 26, 27, 29, 30, 31, 32, 33, 34, 35, 36, 57, 58, 59, 60, 61, 62, 63, 64, 37, 38, 39, 40, 90, 91, 92, 8, 41, 42, 43, 44, 45, 46, 47, 93, 94, 141, 142, 143, 144, 145, 146, 147, 148, 149, 150, 151, 152, 153, 154, 155, 156, 157, 158, 159, 160, 161, 162, 163, 164, 165, 166, 167, 168, 169, 170, 171, 172, 173, 174, 175, 176, 177, 178, 179, 180, 181, 182, 183] (by decide +kernel) (by decide +kernel)) (goodIn_sub (fun _ h => List.mem_cons_of_mem _ (List.mem_append_right _ h)) (by decide +kernel))
set_option maxRecDepth 20000 in
theorem gX4_readSetting_X4_readCat : GoodIn wsX4_readSetting (wsV RX4 202 RX4 yX4_readCat wsX4_readCat) := goodIn_app (goodIn_of _ (by decide +kernel)) ggX4_readSetting_X4_readCat
set_option maxRecDepth 20000 in
theorem ggX4_readSetting_X4_readDraught : GoodIn wsX4_readSetting wsX4_readDraught := goodIn_ca (goodIn_r _ [98, 2, 3, 69, 99, 48, 49, 50, 28, 51, 1, 52, 53, 54, 55, 56, 16, 17, 18, 19, 20, 21, 22, 23, 24, 25, 26, 27, 29, 30, 31, 32, 33, 34, 35, 36, 57, 58, 59, 60, 61, 62, 63, 64, 37, 38, 39, 40, 93, 94, 141, 142, 143, 144, 145, 146, 147, 148, 149, 150, 151, 152, 153, 154, 155, 156, 157, 158, 159, 160, 161, 162, 163, 164, 165, 166, 167, 168, 169, 170, 171, 172, 173, 174, 175, 176, 177, 178, 179, 180, 181, 182, 183] (by decide +kernel) (by decide +kernel)) (goodIn_sub (fun _ h => List.mem_cons_of_mem _ (List.mem_append_right _ h)) (by decide +kernel))
set_option maxRecDepth 20000 in
theorem gX4_readSetting_X4_readDraught : GoodIn wsX4_readSetting (wsV RX4 205 RX4 yX4_readDraught wsX4_readDraught) := goodIn_app (goodIn_of _ (by decide +kernel)) ggX4_readSetting_X4_readDraught
set_option maxRecDepth 20000 in
theorem ggX4_readSetting_X4_readCloud : GoodIn wsX4_readSetting wsX4_readCloud := goodIn_ca (goodIn_r _ [103, 2, 3, 104, 6, 105, 48, 49, 50, 28, 51, 1, 52, 53, 54, 55, 56, 16, 17, 18, 19, 20, 21, 22, 23, 24, 25, 26, 27, 29, 30, 31, 32, 33, 34, 35, 36, 57, 58, 59, 60, 61, 62, 63, 64, 37, 38, 39, 40, 93, 94, 141, 142, 143, 144, 145, 146, 147, 148, 149, 150, 151, 152, 153, 154, 155, 156, 157, 158, 159, 160, 161, 162, 163, 164, 165, 166, 167, 168, 169, 170, 171, 172, 173, 174, 175, 176, 177, 178, 179, 180, 181, 182, 183] (by decide +kernel) (by decide +kernel)) (goodIn_sub (fun _ h => List.mem_cons_of_mem _ (List.mem_append_right _ h)) (by decide +kernel))
set_option maxRecDepth 20000 in
theorem gX4_readSetting_X4_readCloud : GoodIn wsX4_readSetting (wsV RX4 208 RX4 yX4_readCloud wsX4_readCloud) := goodIn_app (goodIn_of _ (by decide +kernel)) ggX4_readSetting_X4_readCloud
set_option maxRecDepth 20000 in
theorem ggX4_readSetting_X4_readCurtains : GoodIn wsX4_readSetting wsX4_readCurtains := goodIn_ca (goodIn_r _ [109, 1, 56, 2, 3, 69, 110, 16, 17, 18, 19, 20, 21, 22, 23, 24, 52, 53, 54, 28, 55, 25, 26, 27, 29, 30, 31, 32, 33, 34, 35, 36, 57, 58, 59, 60, 61, 62, 63, 64, 93, 94, 37, 38, 39, 40, 141, 142, 143, 144, 145, 146, 147, 148, 149, 150, 151, 152, 153, 154, 155, 156, 157, 158, 159, 160, 161, 162, 163, 164, 165, 166, 167, 168, 169, 170, 171, 172, 173, 174, 175, 176, 177, 178, 179, 180, 181, 182, 183] (by decide +kernel) (by decide +kernel)) (goodIn_sub (fun _ h => List.mem_cons_of_mem _ (List.mem_append_right _ h)) (by decide +kernel))
set_option maxRecDepth 20000 in
theorem gX4_readSetting_X4_readCurtains : GoodIn wsX4_readSetting (wsV RX4 211 RX4 yX4_readCurtains wsX4_readCurtains) := goodIn_app (goodIn_of _ (by decide +kernel)) ggX4_readSetting_X4_readCurtains
set_option maxRecDepth 20000 in
theorem ggX4_readSetting_X4_readTiles : GoodIn wsX4_readSetting wsX4_readTiles := goodIn_ca (goodIn_r _ [114, 30, 1, 56, 115, 116, 16, 17, 18, 19, 20, 21, 22, 23, 24, 117, 118, 119, 28, 120, 2, 3, 121, 69, 122, 123, 37, 38, 39, 40, 82, 83, 84, 85, 86, 87, 88, 89, 52, 53, 54, 55, 25, 26, 27, 29, 31, 32, 33, 34, 35, 36, 57, 58, 59, 60, 61, 62, 63, 64, 124, 125, 126, 127, 128, 129, 130, 131, 132, 133, 134, 135, 136, 137, 138, 139, 140, 93, 94, 141, 142, 143, 144, 145, 146, 147, 148, 149, 150, 151, 179, 180, 181, 182, 183, 152, 153, 154, 155, 156, 157, 158, 159, 160, 161, 162, 163, 164, 165, 166, 167, 168, 169, 170, 171, 172, 173, 174, 175, 176, 177, 178] (by decide +kernel) (by decide +kernel)) (goodIn_sub (fun _ h => List.mem_cons_of_mem _ (List.mem_append_right _ h)) (by decide +kernel))
set_option maxRecDepth 20000 in
theorem gX4_readSetting_X4_readTiles : GoodIn wsX4_readSetting (wsV RX4 214 RX4 yX4_readTiles wsX4_readTiles) := goodIn_app (goodIn_of _ (by decide +kernel)) ggX4_readSetting_X4_readTiles
theorem dX4_readSetting_0 : decode cX4_readSetting 0 = .ok (.aload_n 0, 1) := by decide +kernel
theorem dX4_readSetting_1 : decode cX4_readSetting 1 = .ok (.getfield 12, 3) := by decide +kernel
theorem dX4_readSetting_4 : decode cX4_readSetting 4 = .ok (.invokevirtual 89, 3) := by decide +kernel
theorem dX4_readSetting_7 : decode cX4_readSetting 7 = .ok (.astore_n 1, 1) := by decide +kernel
theorem dX4_readSetting_8 : decode cX4_readSetting 8 = .ok (.aload_n 0, 1) := by decide +kernel
theorem dX4_readSetting_9 : decode cX4_readSetting 9 = .ok (.getfield 25, 3) := by decide +kernel
theorem dX4_readSetting_12 : decode cX4_readSetting 12 = .ok (.getfield 117, 3) := by decide +kernel
theorem dX4_readSetting_15 : decode cX4_readSetting 15 = .ok (.astore_n 2, 1) := by decide +kernel
theorem dX4_readSetting_16 : decode cX4_readSetting 16 = .ok (.aload_n 1, 1) := by decide +kernel
theorem dX4_readSetting_17 : decode cX4_readSetting 17 = .ok (.getfield 161, 3) := by decide +kernel
theorem dX4_readSetting_20 : decode cX4_readSetting 20 = .ok (.ifCond .ne 9, 3) := by decide +kernel
theorem dX4_readSetting_23 : decode cX4_readSetting 23 = .ok (.aload_n 0, 1) := by decide +kernel
theorem dX4_readSetting_24 : decode cX4_readSetting 24 = .ok (.iconst 1, 1) := by decide +kernel
theorem dX4_readSetting_25 : decode cX4_readSetting 25 = .ok (.invokevirtual 99, 3) := by decide +kernel
theorem dX4_readSetting_28 : decode cX4_readSetting 28 = .ok (.return_, 1) := by decide +kernel
theorem dX4_readSetting_29 : decode cX4_readSetting 29 = .ok (.aload_n 1, 1) := by decide +kernel
theorem dX4_readSetting_30 : decode cX4_readSetting 30 = .ok (.getstatic 164, 3) := by decide +kernel
theorem dX4_readSetting_33 : decode cX4_readSetting 33 = .ok (.if_acmp .ne 17, 3) := by decide +kernel
theorem dX4_readSetting_36 : decode cX4_readSetting 36 = .ok (.aload_n 2, 1) := by decide +kernel
theorem dX4_readSetting_37 : decode cX4_readSetting 37 = .ok (.getfield 167, 3) := by decide +kernel
theorem dX4_readSetting_40 : decode cX4_readSetting 40 = .ok (.iconst 4, 1) := by decide +kernel
theorem dX4_readSetting_41 : decode cX4_readSetting 41 = .ok (.if_icmp .lt 9, 3) := by decide +kernel
theorem dX4_readSetting_44 : decode cX4_readSetting 44 = .ok (.aload_n 0, 1) := by decide +kernel
theorem dX4_readSetting_45 : decode cX4_readSetting 45 = .ok (.iconst 4, 1) := by decide +kernel
theorem dX4_readSetting_46 : decode cX4_readSetting 46 = .ok (.invokevirtual 99, 3) := by decide +kernel
theorem dX4_readSetting_49 : decode cX4_readSetting 49 = .ok (.return_, 1) := by decide +kernel
theorem dX4_readSetting_50 : decode cX4_readSetting 50 = .ok (.aload_n 0, 1) := by decide +kernel
theorem dX4_readSetting_51 : decode cX4_readSetting 51 = .ok (.iconst 0, 1) := by decide +kernel
theorem dX4_readSetting_52 : decode cX4_readSetting 52 = .ok (.putfield 51, 3) := by decide +kernel
theorem dX4_readSetting_55 : decode cX4_readSetting 55 = .ok (.aload_n 0, 1) := by decide +kernel
theorem dX4_readSetting_56 : decode cX4_readSetting 56 = .ok (.getfield 12, 3) := by decide +kernel
theorem dX4_readSetting_59 : decode cX4_readSetting 59 = .ok (.invokevirtual 108, 3) := by decide +kernel
theorem dX4_readSetting_62 : decode cX4_readSetting 62 = .ok (.getstatic 170, 3) := by decide +kernel
theorem dX4_readSetting_65 : decode cX4_readSetting 65 = .ok (.aload_n 1, 1) := by decide +kernel
theorem dX4_readSetting_66 : decode cX4_readSetting 66 = .ok (.invokevirtual 175, 3) := by decide +kernel
theorem dX4_readSetting_69 : decode cX4_readSetting 69 = .ok (.iaload, 1) := by decide +kernel
theorem dX4_readSetting_70 : decode cX4_readSetting 70 = .ok (.tableswitch 202 1 12 #[62, 76, 92, 106, 120, 134, 148, 166, 173, 180, 187, 194], 62) := by decide +kernel
theorem dX4_readSetting_132 : decode cX4_readSetting 132 = .ok (.aload_n 2, 1) := by decide +kernel
theorem dX4_readSetting_133 : decode cX4_readSetting 133 = .ok (.aload_n 0, 1) := by decide +kernel
theorem dX4_readSetting_134 : decode cX4_readSetting 134 = .ok (.iconst 1, 1) := by decide +kernel
theorem dX4_readSetting_135 : decode cX4_readSetting 135 = .ok (.bipush 20, 2) := by decide +kernel
theorem dX4_readSetting_137 : decode cX4_readSetting 137 = .ok (.invokevirtual 114, 3) := by decide +kernel
theorem dX4_readSetting_140 : decode cX4_readSetting 140 = .ok (.putfield 178, 3) := by decide +kernel
theorem dX4_readSetting_143 : decode cX4_readSetting 143 = .ok (.goto 134, 3) := by decide +kernel
theorem dX4_readSetting_146 : decode cX4_readSetting 146 = .ok (.aload_n 0, 1) := by decide +kernel
theorem dX4_readSetting_147 : decode cX4_readSetting 147 = .ok (.getfield 25, 3) := by decide +kernel
theorem dX4_readSetting_150 : decode cX4_readSetting 150 = .ok (.aload_n 0, 1) := by decide +kernel
theorem dX4_readSetting_151 : decode cX4_readSetting 151 = .ok (.iconst 1, 1) := by decide +kernel
theorem dX4_readSetting_152 : decode cX4_readSetting 152 = .ok (.iconst 5, 1) := by decide +kernel
theorem dX4_readSetting_153 : decode cX4_readSetting 153 = .ok (.invokevirtual 114, 3) := by decide +kernel
theorem dX4_readSetting_156 : decode cX4_readSetting 156 = .ok (.putfield 181, 3) := by decide +kernel
theorem dX4_readSetting_159 : decode cX4_readSetting 159 = .ok (.goto 118, 3) := by decide +kernel
theorem dX4_readSetting_162 : decode cX4_readSetting 162 = .ok (.aload_n 2, 1) := by decide +kernel
theorem dX4_readSetting_163 : decode cX4_readSetting 163 = .ok (.aload_n 0, 1) := by decide +kernel
theorem dX4_readSetting_164 : decode cX4_readSetting 164 = .ok (.iconst 1, 1) := by decide +kernel
theorem dX4_readSetting_165 : decode cX4_readSetting 165 = .ok (.bipush 99, 2) := by decide +kernel
theorem dX4_readSetting_167 : decode cX4_readSetting 167 = .ok (.invokevirtual 114, 3) := by decide +kernel
theorem dX4_readSetting_170 : decode cX4_readSetting 170 = .ok (.putfield 184, 3) := by decide +kernel
theorem dX4_readSetting_173 : decode cX4_readSetting 173 = .ok (.goto 104, 3) := by decide +kernel
theorem dX4_readSetting_176 : decode cX4_readSetting 176 = .ok (.aload_n 2, 1) := by decide +kernel
theorem dX4_readSetting_177 : decode cX4_readSetting 177 = .ok (.aload_n 0, 1) := by decide +kernel
theorem dX4_readSetting_178 : decode cX4_readSetting 178 = .ok (.iconst 0, 1) := by decide +kernel
theorem dX4_readSetting_179 : decode cX4_readSetting 179 = .ok (.bipush 9, 2) := by decide +kernel
theorem dX4_readSetting_181 : decode cX4_readSetting 181 = .ok (.invokevirtual 114, 3) := by decide +kernel
theorem dX4_readSetting_184 : decode cX4_readSetting 184 = .ok (.putfield 187, 3) := by decide +kernel
theorem dX4_readSetting_187 : decode cX4_readSetting 187 = .ok (.goto 90, 3) := by decide +kernel
theorem dX4_readSetting_190 : decode cX4_readSetting 190 = .ok (.aload_n 2, 1) := by decide +kernel
theorem dX4_readSetting_191 : decode cX4_readSetting 191 = .ok (.aload_n 0, 1) := by decide +kernel
theorem dX4_readSetting_192 : decode cX4_readSetting 192 = .ok (.iconst 0, 1) := by decide +kernel
theorem dX4_readSetting_193 : decode cX4_readSetting 193 = .ok (.bipush 99, 2) := by decide +kernel
theorem dX4_readSetting_195 : decode cX4_readSetting 195 = .ok (.invokevirtual 114, 3) := by decide +kernel
theorem dX4_readSetting_198 : decode cX4_readSetting 198 = .ok (.putfield 190, 3) := by decide +kernel
theorem dX4_readSetting_201 : decode cX4_readSetting 201 = .ok (.goto 76, 3) := by decide +kernel
theorem dX4_readSetting_204 : decode cX4_readSetting 204 = .ok (.aload_n 2, 1) := by decide +kernel
theorem dX4_readSetting_205 : decode cX4_readSetting 205 = .ok (.aload_n 0, 1) := by decide +kernel
theorem dX4_readSetting_206 : decode cX4_readSetting 206 = .ok (.iconst 0, 1) := by decide +kernel
theorem dX4_readSetting_207 : decode cX4_readSetting 207 = .ok (.bipush 20, 2) := by decide +kernel
theorem dX4_readSetting_209 : decode cX4_readSetting 209 = .ok (.invokevirtual 114, 3) := by decide +kernel
theorem dX4_readSetting_212 : decode cX4_readSetting 212 = .ok (.putfield 193, 3) := by decide +kernel
theorem dX4_readSetting_215 : decode cX4_readSetting 215 = .ok (.goto 62, 3) := by decide +kernel
theorem dX4_readSetting_218 : decode cX4_readSetting 218 = .ok (.aload_n 0, 1) := by decide +kernel
theorem dX4_readSetting_219 : decode cX4_readSetting 219 = .ok (.getfield 25, 3) := by decide +kernel
theorem dX4_readSetting_222 : decode cX4_readSetting 222 = .ok (.aload_n 0, 1) := by decide +kernel
theorem dX4_readSetting_223 : decode cX4_readSetting 223 = .ok (.iconst 0, 1) := by decide +kernel
theorem dX4_readSetting_224 : decode cX4_readSetting 224 = .ok (.sipush 999, 3) := by decide +kernel
theorem dX4_readSetting_227 : decode cX4_readSetting 227 = .ok (.invokevirtual 114, 3) := by decide +kernel
theorem dX4_readSetting_230 : decode cX4_readSetting 230 = .ok (.putfield 196, 3) := by decide +kernel
theorem dX4_readSetting_233 : decode cX4_readSetting 233 = .ok (.goto 44, 3) := by decide +kernel
theorem dX4_readSetting_236 : decode cX4_readSetting 236 = .ok (.aload_n 0, 1) := by decide +kernel
theorem dX4_readSetting_237 : decode cX4_readSetting 237 = .ok (.invokevirtual 199, 3) := by decide +kernel
theorem dX4_readSetting_240 : decode cX4_readSetting 240 = .ok (.goto 37, 3) := by decide +kernel
theorem dX4_readSetting_243 : decode cX4_readSetting 243 = .ok (.aload_n 0, 1) := by decide +kernel
theorem dX4_readSetting_244 : decode cX4_readSetting 244 = .ok (.invokevirtual 202, 3) := by decide +kernel
theorem dX4_readSetting_247 : decode cX4_readSetting 247 = .ok (.goto 30, 3) := by decide +kernel
theorem dX4_readSetting_250 : decode cX4_readSetting 250 = .ok (.aload_n 0, 1) := by decide +kernel
theorem dX4_readSetting_251 : decode cX4_readSetting 251 = .ok (.invokevirtual 205, 3) := by decide +kernel
theorem dX4_readSetting_254 : decode cX4_readSetting 254 = .ok (.goto 23, 3) := by decide +kernel
theorem dX4_readSetting_257 : decode cX4_readSetting 257 = .ok (.aload_n 0, 1) := by decide +kernel
theorem dX4_readSetting_258 : decode cX4_readSetting 258 = .ok (.invokevirtual 208, 3) := by decide +kernel
theorem dX4_readSetting_261 : decode cX4_readSetting 261 = .ok (.goto 16, 3) := by decide +kernel
theorem dX4_readSetting_264 : decode cX4_readSetting 264 = .ok (.aload_n 0, 1) := by decide +kernel
theorem dX4_readSetting_265 : decode cX4_readSetting 265 = .ok (.iconst 1, 1) := by decide +kernel
theorem dX4_readSetting_266 : decode cX4_readSetting 266 = .ok (.invokevirtual 211, 3) := by decide +kernel
theorem dX4_readSetting_269 : decode cX4_readSetting 269 = .ok (.goto 8, 3) := by decide +kernel
theorem dX4_readSetting_272 : decode cX4_readSetting 272 = .ok (.aload_n 0, 1) := by decide +kernel
theorem dX4_readSetting_273 : decode cX4_readSetting 273 = .ok (.aload_n 1, 1) := by decide +kernel
theorem dX4_readSetting_274 : decode cX4_readSetting 274 = .ok (.invokevirtual 214, 3) := by decide +kernel
theorem dX4_readSetting_277 : decode cX4_readSetting 277 = .ok (.return_, 1) := by decide +kernel
set_option maxRecDepth 20000 in
theorem ggX4_readWalker_X4_takeNumber : GoodIn wsX4_readWalker wsX4_takeNumber := goodIn_ca (goodIn_r _ [14, 4, 15, 16, 17, 13, 18, 19, 20, 21, 22, 23, 24, 25, 26, 27, 28, 29, 30, 31, 32, 33, 34, 35, 36, 37, 38, 39, 40, 41, 42, 43, 44, 45, 46, 47, 48, 49, 50, 51, 52, 53, 54, 55, 56, 57, 58, 59, 60, 61, 62, 99, 100, 101, 102, 103] (by decide +kernel) (by decide +kernel)) (goodIn_sub (fun _ h => List.mem_cons_of_mem _ (List.mem_append_right _ h)) (by decide +kernel))
set_option maxRecDepth 20000 in
theorem gX4_readWalker_X4_takeNumber : GoodIn wsX4_readWalker (wsV RX4 114 RX4 yX4_takeNumber wsX4_takeNumber) := goodIn_app (goodIn_of _ (by decide +kernel)) ggX4_readWalker_X4_takeNumber
set_option maxRecDepth 20000 in
theorem ggX4_readWalker_X6_sign : GoodIn wsX4_readWalker wsX6_sign := goodIn_r _ [24, 25, 26, 27, 28, 99, 100, 101, 102, 103] (by decide +kernel) (by decide +kernel)
set_option maxRecDepth 20000 in
theorem gX4_readWalker_X6_sign : GoodIn wsX4_readWalker (wsV RX4 89 RX6 yX6_sign wsX6_sign) := goodIn_app (goodIn_of _ (by decide +kernel)) ggX4_readWalker_X6_sign
set_option maxRecDepth 20000 in
theorem ggX4_readWalker_X4_fail : GoodIn wsX4_readWalker wsX4_fail := goodIn_ca (goodIn_r _ [32, 33, 4, 34, 35, 36, 37, 23, 38, 25, 39, 52, 53, 54, 55, 56, 57, 58, 59, 60, 61, 62, 99, 100, 101, 102, 103] (by decide +kernel) (by decide +kernel)) (goodIn_sub (fun _ h => List.mem_cons_of_mem _ (List.mem_append_right _ h)) (by decide +kernel))
set_option maxRecDepth 20000 in
theorem gX4_readWalker_X4_fail : GoodIn wsX4_readWalker (wsV RX4 99 RX4 yX4_fail wsX4_fail) := goodIn_app (goodIn_of _ (by decide +kernel)) ggX4_readWalker_X4_fail
set_option maxRecDepth 20000 in
theorem ggX4_readWalker_X6_goOn : GoodIn wsX4_readWalker wsX6_goOn := goodIn_r _ [51, 25, 26, 99, 100, 101, 102, 103] (by decide +kernel) (by decide +kernel)
set_option maxRecDepth 20000 in
theorem gX4_readWalker_X6_goOn : GoodIn wsX4_readWalker (wsV RX4 108 RX6 yX6_goOn wsX6_goOn) := goodIn_app (goodIn_of _ (by decide +kernel)) ggX4_readWalker_X6_goOn
theorem dX4_readWalker_0 : decode cX4_readWalker 0 = .ok (.aload_n 0, 1) := by decide +kernel
theorem dX4_readWalker_1 : decode cX4_readWalker 1 = .ok (.iconst 0, 1) := by decide +kernel
theorem dX4_readWalker_2 : decode cX4_readWalker 2 = .ok (.aload_n 0, 1) := by decide +kernel
theorem dX4_readWalker_3 : decode cX4_readWalker 3 = .ok (.getfield 25, 3) := by decide +kernel
theorem dX4_readWalker_6 : decode cX4_readWalker 6 = .ok (.getfield 117, 3) := by decide +kernel
theorem dX4_readWalker_9 : decode cX4_readWalker 9 = .ok (.getfield 126, 3) := by decide +kernel
theorem dX4_readWalker_12 : decode cX4_readWalker 12 = .ok (.iconst 1, 1) := by decide +kernel
theorem dX4_readWalker_13 : decode cX4_readWalker 13 = .ok (.isub, 1) := by decide +kernel
theorem dX4_readWalker_14 : decode cX4_readWalker 14 = .ok (.invokevirtual 114, 3) := by decide +kernel
theorem dX4_readWalker_17 : decode cX4_readWalker 17 = .ok (.istore_n 1, 1) := by decide +kernel
theorem dX4_readWalker_18 : decode cX4_readWalker 18 = .ok (.iload_n 1, 1) := by decide +kernel
theorem dX4_readWalker_19 : decode cX4_readWalker 19 = .ok (.iconst (-1), 1) := by decide +kernel
theorem dX4_readWalker_20 : decode cX4_readWalker 20 = .ok (.if_icmp .ne 4, 3) := by decide +kernel
theorem dX4_readWalker_23 : decode cX4_readWalker 23 = .ok (.return_, 1) := by decide +kernel
theorem dX4_readWalker_24 : decode cX4_readWalker 24 = .ok (.aload_n 0, 1) := by decide +kernel
theorem dX4_readWalker_25 : decode cX4_readWalker 25 = .ok (.getfield 12, 3) := by decide +kernel
theorem dX4_readWalker_28 : decode cX4_readWalker 28 = .ok (.invokevirtual 89, 3) := by decide +kernel
theorem dX4_readWalker_31 : decode cX4_readWalker 31 = .ok (.astore_n 2, 1) := by decide +kernel
theorem dX4_readWalker_32 : decode cX4_readWalker 32 = .ok (.aload_n 2, 1) := by decide +kernel
theorem dX4_readWalker_33 : decode cX4_readWalker 33 = .ok (.getstatic 218, 3) := by decide +kernel
theorem dX4_readWalker_36 : decode cX4_readWalker 36 = .ok (.if_acmp .eq 16, 3) := by decide +kernel
theorem dX4_readWalker_39 : decode cX4_readWalker 39 = .ok (.aload_n 2, 1) := by decide +kernel
theorem dX4_readWalker_40 : decode cX4_readWalker 40 = .ok (.getstatic 221, 3) := by decide +kernel
theorem dX4_readWalker_43 : decode cX4_readWalker 43 = .ok (.if_acmp .eq 9, 3) := by decide +kernel
theorem dX4_readWalker_46 : decode cX4_readWalker 46 = .ok (.aload_n 0, 1) := by decide +kernel
theorem dX4_readWalker_47 : decode cX4_readWalker 47 = .ok (.iconst 1, 1) := by decide +kernel
theorem dX4_readWalker_48 : decode cX4_readWalker 48 = .ok (.invokevirtual 99, 3) := by decide +kernel
theorem dX4_readWalker_51 : decode cX4_readWalker 51 = .ok (.return_, 1) := by decide +kernel
theorem dX4_readWalker_52 : decode cX4_readWalker 52 = .ok (.aload_n 0, 1) := by decide +kernel
theorem dX4_readWalker_53 : decode cX4_readWalker 53 = .ok (.getfield 12, 3) := by decide +kernel
theorem dX4_readWalker_56 : decode cX4_readWalker 56 = .ok (.invokevirtual 108, 3) := by decide +kernel
theorem dX4_readWalker_59 : decode cX4_readWalker 59 = .ok (.aload_n 0, 1) := by decide +kernel
theorem dX4_readWalker_60 : decode cX4_readWalker 60 = .ok (.getfield 25, 3) := by decide +kernel
theorem dX4_readWalker_63 : decode cX4_readWalker 63 = .ok (.getfield 224, 3) := by decide +kernel
theorem dX4_readWalker_66 : decode cX4_readWalker 66 = .ok (.iload_n 1, 1) := by decide +kernel
theorem dX4_readWalker_67 : decode cX4_readWalker 67 = .ok (.putfield 228, 3) := by decide +kernel
theorem dX4_readWalker_70 : decode cX4_readWalker 70 = .ok (.aload_n 0, 1) := by decide +kernel
theorem dX4_readWalker_71 : decode cX4_readWalker 71 = .ok (.getfield 25, 3) := by decide +kernel
theorem dX4_readWalker_74 : decode cX4_readWalker 74 = .ok (.getfield 224, 3) := by decide +kernel
theorem dX4_readWalker_77 : decode cX4_readWalker 77 = .ok (.aload_n 2, 1) := by decide +kernel
theorem dX4_readWalker_78 : decode cX4_readWalker 78 = .ok (.getstatic 221, 3) := by decide +kernel
theorem dX4_readWalker_81 : decode cX4_readWalker 81 = .ok (.if_acmp .ne 7, 3) := by decide +kernel
theorem dX4_readWalker_84 : decode cX4_readWalker 84 = .ok (.iconst 1, 1) := by decide +kernel
theorem dX4_readWalker_85 : decode cX4_readWalker 85 = .ok (.goto 4, 3) := by decide +kernel
theorem dX4_readWalker_88 : decode cX4_readWalker 88 = .ok (.iconst 0, 1) := by decide +kernel
theorem dX4_readWalker_89 : decode cX4_readWalker 89 = .ok (.putfield 233, 3) := by decide +kernel
theorem dX4_readWalker_92 : decode cX4_readWalker 92 = .ok (.return_, 1) := by decide +kernel
set_option maxRecDepth 20000 in
theorem ggX4_readCat_X8_tileCount : GoodIn wsX4_readCat wsX8_tileCount := goodIn_r _ [11, 12, 13, 14, 81, 82, 83, 84, 85, 86, 87, 88, 89, 90, 91, 92, 93, 94, 95, 96, 97, 98, 99, 100, 101, 102, 103, 104, 105, 106, 107] (by decide +kernel) (by decide +kernel)
set_option maxRecDepth 20000 in
theorem gX4_readCat_X8_tileCount : GoodIn wsX4_readCat (wsV RX4 236 RX8 yX8_tileCount wsX8_tileCount) := goodIn_app (goodIn_of _ (by decide +kernel)) ggX4_readCat_X8_tileCount
set_option maxRecDepth 20000 in
theorem ggX4_readCat_X4_takeNumber : GoodIn wsX4_readCat wsX4_takeNumber := goodIn_ca (goodIn_r _ [19, 5, 20, 21, 22, 18, 23, 24, 25, 26, 27, 28, 29, 30, 31, 32, 33, 34, 35, 36, 37, 38, 39, 40, 41, 42, 43, 44, 45, 46, 47, 48, 49, 50, 51, 52, 53, 54, 55, 56, 70, 71, 72, 73, 74, 75, 76, 77, 78, 79, 80, 108, 109, 110, 111, 112] (by decide +kernel) (by decide +kernel)) (goodIn_sub (fun _ h => List.mem_cons_of_mem _ (List.mem_append_right _ h)) (by decide +kernel))
set_option maxRecDepth 20000 in
theorem gX4_readCat_X4_takeNumber : GoodIn wsX4_readCat (wsV RX4 114 RX4 yX4_takeNumber wsX4_takeNumber) := goodIn_app (goodIn_of _ (by decide +kernel)) ggX4_readCat_X4_takeNumber
set_option maxRecDepth 20000 in
theorem ggX4_readCat_X6_sign : GoodIn wsX4_readCat wsX6_sign := goodIn_r _ [29, 30, 31, 32, 33, 108, 109, 110, 111, 112] (by decide +kernel) (by decide +kernel)
set_option maxRecDepth 20000 in
theorem gX4_readCat_X6_sign : GoodIn wsX4_readCat (wsV RX4 89 RX6 yX6_sign wsX6_sign) := goodIn_app (goodIn_of _ (by decide +kernel)) ggX4_readCat_X6_sign
set_option maxRecDepth 20000 in
theorem ggX4_readCat_X4_moveOf : GoodIn wsX4_readCat wsX4_moveOf := goodIn_ca (goodIn_r _ [59, 60, 61, 62, 63, 64, 65, 66, 67] (by decide +kernel) (by decide +kernel)) (goodIn_sub (fun _ h => List.mem_cons_of_mem _ (List.mem_append_right _ h)) (by decide +kernel))
set_option maxRecDepth 20000 in
theorem gX4_readCat_X4_moveOf : GoodIn wsX4_readCat (va_wsS RX4 245 yX4_moveOf wsX4_moveOf) := goodIn_app (goodIn_of _ (by decide +kernel)) ggX4_readCat_X4_moveOf
set_option maxRecDepth 20000 in
theorem ggX4_readCat_X4_fail : GoodIn wsX4_readCat wsX4_fail := goodIn_ca (goodIn_r _ [37, 38, 5, 39, 40, 41, 42, 28, 43, 30, 44, 70, 71, 72, 73, 74, 75, 76, 77, 78, 79, 80, 108, 109, 110, 111, 112] (by decide +kernel) (by decide +kernel)) (goodIn_sub (fun _ h => List.mem_cons_of_mem _ (List.mem_append_right _ h)) (by decide +kernel))
set_option maxRecDepth 20000 in
theorem gX4_readCat_X4_fail : GoodIn wsX4_readCat (wsV RX4 99 RX4 yX4_fail wsX4_fail) := goodIn_app (goodIn_of _ (by decide +kernel)) ggX4_readCat_X4_fail
set_option maxRecDepth 20000 in
theorem ggX4_readCat_X9_put : GoodIn wsX4_readCat wsX9_put := goodIn_ca (goodIn_r _ [69] (by decide +kernel) (by decide +kernel)) (goodIn_sub (fun _ h => List.mem_cons_of_mem _ (List.mem_append_right _ h)) (by decide +kernel))
set_option maxRecDepth 20000 in
theorem gX4_readCat_X9_put_n148 : GoodIn wsX4_readCat (wsX9_put) := ggX4_readCat_X9_put
set_option maxRecDepth 20000 in
theorem ggX4_readCat_X6_goOn : GoodIn wsX4_readCat wsX6_goOn := goodIn_r _ [56, 30, 31, 108, 109, 110, 111, 112] (by decide +kernel) (by decide +kernel)
set_option maxRecDepth 20000 in
theorem gX4_readCat_X6_goOn : GoodIn wsX4_readCat (wsV RX4 108 RX6 yX6_goOn wsX6_goOn) := goodIn_app (goodIn_of _ (by decide +kernel)) ggX4_readCat_X6_goOn
theorem dX4_readCat_0 : decode cX4_readCat 0 = .ok (.aload_n 0, 1) := by decide +kernel
theorem dX4_readCat_1 : decode cX4_readCat 1 = .ok (.iconst 0, 1) := by decide +kernel
theorem dX4_readCat_2 : decode cX4_readCat 2 = .ok (.aload_n 0, 1) := by decide +kernel
theorem dX4_readCat_3 : decode cX4_readCat 3 = .ok (.getfield 25, 3) := by decide +kernel
theorem dX4_readCat_6 : decode cX4_readCat 6 = .ok (.invokevirtual 236, 3) := by decide +kernel
theorem dX4_readCat_9 : decode cX4_readCat 9 = .ok (.iconst 1, 1) := by decide +kernel
theorem dX4_readCat_10 : decode cX4_readCat 10 = .ok (.isub, 1) := by decide +kernel
theorem dX4_readCat_11 : decode cX4_readCat 11 = .ok (.invokevirtual 114, 3) := by decide +kernel
theorem dX4_readCat_14 : decode cX4_readCat 14 = .ok (.istore_n 1, 1) := by decide +kernel
theorem dX4_readCat_15 : decode cX4_readCat 15 = .ok (.iload_n 1, 1) := by decide +kernel
theorem dX4_readCat_16 : decode cX4_readCat 16 = .ok (.iconst (-1), 1) := by decide +kernel
theorem dX4_readCat_17 : decode cX4_readCat 17 = .ok (.if_icmp .ne 4, 3) := by decide +kernel
theorem dX4_readCat_20 : decode cX4_readCat 20 = .ok (.return_, 1) := by decide +kernel
theorem dX4_readCat_21 : decode cX4_readCat 21 = .ok (.aload_n 0, 1) := by decide +kernel
theorem dX4_readCat_22 : decode cX4_readCat 22 = .ok (.getfield 25, 3) := by decide +kernel
theorem dX4_readCat_25 : decode cX4_readCat 25 = .ok (.iload_n 1, 1) := by decide +kernel
theorem dX4_readCat_26 : decode cX4_readCat 26 = .ok (.putfield 239, 3) := by decide +kernel
theorem dX4_readCat_29 : decode cX4_readCat 29 = .ok (.aload_n 0, 1) := by decide +kernel
theorem dX4_readCat_30 : decode cX4_readCat 30 = .ok (.getfield 25, 3) := by decide +kernel
theorem dX4_readCat_33 : decode cX4_readCat 33 = .ok (.getfield 117, 3) := by decide +kernel
theorem dX4_readCat_36 : decode cX4_readCat 36 = .ok (.iconst 0, 1) := by decide +kernel
theorem dX4_readCat_37 : decode cX4_readCat 37 = .ok (.putfield 242, 3) := by decide +kernel
theorem dX4_readCat_40 : decode cX4_readCat 40 = .ok (.iconst 0, 1) := by decide +kernel
theorem dX4_readCat_41 : decode cX4_readCat 41 = .ok (.istore_n 2, 1) := by decide +kernel
theorem dX4_readCat_42 : decode cX4_readCat 42 = .ok (.iload_n 2, 1) := by decide +kernel
theorem dX4_readCat_43 : decode cX4_readCat 43 = .ok (.bipush 30, 2) := by decide +kernel
theorem dX4_readCat_45 : decode cX4_readCat 45 = .ok (.if_icmp .gt 73, 3) := by decide +kernel
theorem dX4_readCat_48 : decode cX4_readCat 48 = .ok (.aload_n 0, 1) := by decide +kernel
theorem dX4_readCat_49 : decode cX4_readCat 49 = .ok (.getfield 12, 3) := by decide +kernel
theorem dX4_readCat_52 : decode cX4_readCat 52 = .ok (.invokevirtual 89, 3) := by decide +kernel
theorem dX4_readCat_55 : decode cX4_readCat 55 = .ok (.invokestatic 245, 3) := by decide +kernel
theorem dX4_readCat_58 : decode cX4_readCat 58 = .ok (.istore_n 3, 1) := by decide +kernel
theorem dX4_readCat_59 : decode cX4_readCat 59 = .ok (.iload_n 3, 1) := by decide +kernel
theorem dX4_readCat_60 : decode cX4_readCat 60 = .ok (.iconst (-1), 1) := by decide +kernel
theorem dX4_readCat_61 : decode cX4_readCat 61 = .ok (.if_icmp .ne 4, 3) := by decide +kernel
theorem dX4_readCat_64 : decode cX4_readCat 64 = .ok (.return_, 1) := by decide +kernel
theorem dX4_readCat_65 : decode cX4_readCat 65 = .ok (.iload_n 2, 1) := by decide +kernel
theorem dX4_readCat_66 : decode cX4_readCat 66 = .ok (.bipush 30, 2) := by decide +kernel
theorem dX4_readCat_68 : decode cX4_readCat 68 = .ok (.if_icmp .ne 9, 3) := by decide +kernel
theorem dX4_readCat_71 : decode cX4_readCat 71 = .ok (.aload_n 0, 1) := by decide +kernel
theorem dX4_readCat_72 : decode cX4_readCat 72 = .ok (.iconst 4, 1) := by decide +kernel
theorem dX4_readCat_73 : decode cX4_readCat 73 = .ok (.invokevirtual 99, 3) := by decide +kernel
theorem dX4_readCat_76 : decode cX4_readCat 76 = .ok (.return_, 1) := by decide +kernel
theorem dX4_readCat_77 : decode cX4_readCat 77 = .ok (.aload_n 0, 1) := by decide +kernel
theorem dX4_readCat_78 : decode cX4_readCat 78 = .ok (.getfield 25, 3) := by decide +kernel
theorem dX4_readCat_81 : decode cX4_readCat 81 = .ok (.getfield 117, 3) := by decide +kernel
theorem dX4_readCat_84 : decode cX4_readCat 84 = .ok (.getfield 249, 3) := by decide +kernel
theorem dX4_readCat_87 : decode cX4_readCat 87 = .ok (.iload_n 2, 1) := by decide +kernel
theorem dX4_readCat_88 : decode cX4_readCat 88 = .ok (.iload_n 3, 1) := by decide +kernel
theorem dX4_readCat_89 : decode cX4_readCat 89 = .ok (.invokestatic 148, 3) := by decide +kernel
theorem dX4_readCat_92 : decode cX4_readCat 92 = .ok (.aload_n 0, 1) := by decide +kernel
theorem dX4_readCat_93 : decode cX4_readCat 93 = .ok (.getfield 25, 3) := by decide +kernel
theorem dX4_readCat_96 : decode cX4_readCat 96 = .ok (.getfield 117, 3) := by decide +kernel
theorem dX4_readCat_99 : decode cX4_readCat 99 = .ok (.iload_n 2, 1) := by decide +kernel
theorem dX4_readCat_100 : decode cX4_readCat 100 = .ok (.iconst 1, 1) := by decide +kernel
theorem dX4_readCat_101 : decode cX4_readCat 101 = .ok (.iadd, 1) := by decide +kernel
theorem dX4_readCat_102 : decode cX4_readCat 102 = .ok (.putfield 242, 3) := by decide +kernel
theorem dX4_readCat_105 : decode cX4_readCat 105 = .ok (.aload_n 0, 1) := by decide +kernel
theorem dX4_readCat_106 : decode cX4_readCat 106 = .ok (.getfield 12, 3) := by decide +kernel
theorem dX4_readCat_109 : decode cX4_readCat 109 = .ok (.invokevirtual 108, 3) := by decide +kernel
theorem dX4_readCat_112 : decode cX4_readCat 112 = .ok (.iinc 2 1, 3) := by decide +kernel
theorem dX4_readCat_115 : decode cX4_readCat 115 = .ok (.goto (-73), 3) := by decide +kernel
theorem dX4_readCat_118 : decode cX4_readCat 118 = .ok (.return_, 1) := by decide +kernel
set_option maxRecDepth 20000 in
theorem ggX4_moveOf_Jx29ce0_ordinal_8abf5 : GoodIn wsX4_moveOf wsJx29ce0_ordinal_8abf5 := goodIn_r _ [7, 8] (by decide +kernel) (by decide +kernel)
set_option maxRecDepth 20000 in
theorem gX4_moveOf_Jx29ce0_ordinal_8abf5_u175X5 : GoodIn wsX4_moveOf (va_wsU RX4 175 RX5 "java/lang/Enum" ⟨"MoonlitFloor$Sign", "ordinal", "()I"⟩ yJx29ce0_ordinal_8abf5 wsJx29ce0_ordinal_8abf5) := goodIn_app (goodIn_of _ (by decide +kernel)) ggX4_moveOf_Jx29ce0_ordinal_8abf5
theorem dX4_moveOf_0 : decode cX4_moveOf 0 = .ok (.getstatic 170, 3) := by decide +kernel
theorem dX4_moveOf_3 : decode cX4_moveOf 3 = .ok (.aload_n 0, 1) := by decide +kernel
theorem dX4_moveOf_4 : decode cX4_moveOf 4 = .ok (.invokevirtual 175, 3) := by decide +kernel
theorem dX4_moveOf_7 : decode cX4_moveOf 7 = .ok (.iaload, 1) := by decide +kernel
theorem dX4_moveOf_8 : decode cX4_moveOf 8 = .ok (.tableswitch 46 13 17 #[36, 38, 40, 42, 44], 36) := by decide +kernel
theorem dX4_moveOf_44 : decode cX4_moveOf 44 = .ok (.iconst 0, 1) := by decide +kernel
theorem dX4_moveOf_45 : decode cX4_moveOf 45 = .ok (.ireturn, 1) := by decide +kernel
theorem dX4_moveOf_46 : decode cX4_moveOf 46 = .ok (.iconst 1, 1) := by decide +kernel
theorem dX4_moveOf_47 : decode cX4_moveOf 47 = .ok (.ireturn, 1) := by decide +kernel
theorem dX4_moveOf_48 : decode cX4_moveOf 48 = .ok (.iconst 2, 1) := by decide +kernel
theorem dX4_moveOf_49 : decode cX4_moveOf 49 = .ok (.ireturn, 1) := by decide +kernel
theorem dX4_moveOf_50 : decode cX4_moveOf 50 = .ok (.iconst 3, 1) := by decide +kernel
theorem dX4_moveOf_51 : decode cX4_moveOf 51 = .ok (.ireturn, 1) := by decide +kernel
theorem dX4_moveOf_52 : decode cX4_moveOf 52 = .ok (.iconst 4, 1) := by decide +kernel
theorem dX4_moveOf_53 : decode cX4_moveOf 53 = .ok (.ireturn, 1) := by decide +kernel
theorem dX4_moveOf_54 : decode cX4_moveOf 54 = .ok (.iconst (-1), 1) := by decide +kernel
theorem dX4_moveOf_55 : decode cX4_moveOf 55 = .ok (.ireturn, 1) := by decide +kernel
set_option maxRecDepth 20000 in
theorem ggX4_readDraught_X4_takeNumber : GoodIn wsX4_readDraught wsX4_takeNumber := goodIn_ca (goodIn_r _ [9, 10, 11, 12, 13, 8, 14, 15, 16, 17, 18, 19, 20, 21, 22, 23, 24, 25, 26, 27, 28, 29, 30, 31, 32, 33, 34, 35, 36, 37, 38, 39, 40, 41, 42, 43, 44, 45, 46, 47, 50, 51, 52, 53, 54, 55, 56, 57, 58, 59, 60, 88, 89, 90, 91, 92] (by decide +kernel) (by decide +kernel)) (goodIn_sub (fun _ h => List.mem_cons_of_mem _ (List.mem_append_right _ h)) (by decide +kernel))
set_option maxRecDepth 20000 in
theorem gX4_readDraught_X4_takeNumber : GoodIn wsX4_readDraught (wsV RX4 114 RX4 yX4_takeNumber wsX4_takeNumber) := goodIn_app (goodIn_of _ (by decide +kernel)) ggX4_readDraught_X4_takeNumber
set_option maxRecDepth 20000 in
theorem ggX4_readDraught_X9_put : GoodIn wsX4_readDraught wsX9_put := goodIn_ca (goodIn_r _ [49] (by decide +kernel) (by decide +kernel)) (goodIn_sub (fun _ h => List.mem_cons_of_mem _ (List.mem_append_right _ h)) (by decide +kernel))
set_option maxRecDepth 20000 in
theorem gX4_readDraught_X9_put_n148 : GoodIn wsX4_readDraught (wsX9_put) := ggX4_readDraught_X9_put
theorem dX4_readDraught_0 : decode cX4_readDraught 0 = .ok (.aload_n 0, 1) := by decide +kernel
theorem dX4_readDraught_1 : decode cX4_readDraught 1 = .ok (.iconst 0, 1) := by decide +kernel
theorem dX4_readDraught_2 : decode cX4_readDraught 2 = .ok (.aload_n 0, 1) := by decide +kernel
theorem dX4_readDraught_3 : decode cX4_readDraught 3 = .ok (.getfield 25, 3) := by decide +kernel
theorem dX4_readDraught_6 : decode cX4_readDraught 6 = .ok (.getfield 117, 3) := by decide +kernel
theorem dX4_readDraught_9 : decode cX4_readDraught 9 = .ok (.getfield 126, 3) := by decide +kernel
theorem dX4_readDraught_12 : decode cX4_readDraught 12 = .ok (.iconst 1, 1) := by decide +kernel
theorem dX4_readDraught_13 : decode cX4_readDraught 13 = .ok (.isub, 1) := by decide +kernel
theorem dX4_readDraught_14 : decode cX4_readDraught 14 = .ok (.invokevirtual 114, 3) := by decide +kernel
theorem dX4_readDraught_17 : decode cX4_readDraught 17 = .ok (.istore_n 1, 1) := by decide +kernel
theorem dX4_readDraught_18 : decode cX4_readDraught 18 = .ok (.iload_n 1, 1) := by decide +kernel
theorem dX4_readDraught_19 : decode cX4_readDraught 19 = .ok (.iconst (-1), 1) := by decide +kernel
theorem dX4_readDraught_20 : decode cX4_readDraught 20 = .ok (.if_icmp .ne 7, 3) := by decide +kernel
theorem dX4_readDraught_23 : decode cX4_readDraught 23 = .ok (.iconst (-1), 1) := by decide +kernel
theorem dX4_readDraught_24 : decode cX4_readDraught 24 = .ok (.goto 10, 3) := by decide +kernel
theorem dX4_readDraught_27 : decode cX4_readDraught 27 = .ok (.aload_n 0, 1) := by decide +kernel
theorem dX4_readDraught_28 : decode cX4_readDraught 28 = .ok (.iconst 2, 1) := by decide +kernel
theorem dX4_readDraught_29 : decode cX4_readDraught 29 = .ok (.bipush 60, 2) := by decide +kernel
theorem dX4_readDraught_31 : decode cX4_readDraught 31 = .ok (.invokevirtual 114, 3) := by decide +kernel
theorem dX4_readDraught_34 : decode cX4_readDraught 34 = .ok (.istore_n 2, 1) := by decide +kernel
theorem dX4_readDraught_35 : decode cX4_readDraught 35 = .ok (.iload_n 2, 1) := by decide +kernel
theorem dX4_readDraught_36 : decode cX4_readDraught 36 = .ok (.iconst (-1), 1) := by decide +kernel
theorem dX4_readDraught_37 : decode cX4_readDraught 37 = .ok (.if_icmp .eq 18, 3) := by decide +kernel
theorem dX4_readDraught_40 : decode cX4_readDraught 40 = .ok (.aload_n 0, 1) := by decide +kernel
theorem dX4_readDraught_41 : decode cX4_readDraught 41 = .ok (.getfield 25, 3) := by decide +kernel
theorem dX4_readDraught_44 : decode cX4_readDraught 44 = .ok (.getfield 117, 3) := by decide +kernel
theorem dX4_readDraught_47 : decode cX4_readDraught 47 = .ok (.getfield 252, 3) := by decide +kernel
theorem dX4_readDraught_50 : decode cX4_readDraught 50 = .ok (.iload_n 1, 1) := by decide +kernel
theorem dX4_readDraught_51 : decode cX4_readDraught 51 = .ok (.iload_n 2, 1) := by decide +kernel
theorem dX4_readDraught_52 : decode cX4_readDraught 52 = .ok (.invokestatic 148, 3) := by decide +kernel
theorem dX4_readDraught_55 : decode cX4_readDraught 55 = .ok (.return_, 1) := by decide +kernel
set_option maxRecDepth 20000 in
theorem ggX4_readCloud_X4_takeNumber : GoodIn wsX4_readCloud wsX4_takeNumber := goodIn_ca (goodIn_r _ [10, 11, 12, 13, 14, 9, 15, 16, 17, 18, 19, 20, 21, 22, 23, 24, 25, 26, 27, 28, 29, 30, 31, 32, 33, 34, 35, 36, 37, 38, 39, 40, 41, 42, 43, 44, 45, 46, 47, 48, 51, 52, 53, 54, 55, 56, 57, 58, 59, 60, 61, 89, 90, 91, 92, 93] (by decide +kernel) (by decide +kernel)) (goodIn_sub (fun _ h => List.mem_cons_of_mem _ (List.mem_append_right _ h)) (by decide +kernel))
set_option maxRecDepth 20000 in
theorem gX4_readCloud_X4_takeNumber : GoodIn wsX4_readCloud (wsV RX4 114 RX4 yX4_takeNumber wsX4_takeNumber) := goodIn_app (goodIn_of _ (by decide +kernel)) ggX4_readCloud_X4_takeNumber
set_option maxRecDepth 20000 in
theorem ggX4_readCloud_X9_put : GoodIn wsX4_readCloud wsX9_put := goodIn_ca (goodIn_r _ [50] (by decide +kernel) (by decide +kernel)) (goodIn_sub (fun _ h => List.mem_cons_of_mem _ (List.mem_append_right _ h)) (by decide +kernel))
set_option maxRecDepth 20000 in
theorem gX4_readCloud_X9_put_n148 : GoodIn wsX4_readCloud (wsX9_put) := ggX4_readCloud_X9_put
theorem dX4_readCloud_0 : decode cX4_readCloud 0 = .ok (.aload_n 0, 1) := by decide +kernel
theorem dX4_readCloud_1 : decode cX4_readCloud 1 = .ok (.getfield 25, 3) := by decide +kernel
theorem dX4_readCloud_4 : decode cX4_readCloud 4 = .ok (.getfield 117, 3) := by decide +kernel
theorem dX4_readCloud_7 : decode cX4_readCloud 7 = .ok (.astore_n 1, 1) := by decide +kernel
theorem dX4_readCloud_8 : decode cX4_readCloud 8 = .ok (.aload_n 0, 1) := by decide +kernel
theorem dX4_readCloud_9 : decode cX4_readCloud 9 = .ok (.iconst 0, 1) := by decide +kernel
theorem dX4_readCloud_10 : decode cX4_readCloud 10 = .ok (.sipush 159, 3) := by decide +kernel
theorem dX4_readCloud_13 : decode cX4_readCloud 13 = .ok (.invokevirtual 114, 3) := by decide +kernel
theorem dX4_readCloud_16 : decode cX4_readCloud 16 = .ok (.istore_n 2, 1) := by decide +kernel
theorem dX4_readCloud_17 : decode cX4_readCloud 17 = .ok (.iload_n 2, 1) := by decide +kernel
theorem dX4_readCloud_18 : decode cX4_readCloud 18 = .ok (.iconst (-1), 1) := by decide +kernel
theorem dX4_readCloud_19 : decode cX4_readCloud 19 = .ok (.if_icmp .ne 7, 3) := by decide +kernel
theorem dX4_readCloud_22 : decode cX4_readCloud 22 = .ok (.iconst (-1), 1) := by decide +kernel
theorem dX4_readCloud_23 : decode cX4_readCloud 23 = .ok (.goto 11, 3) := by decide +kernel
theorem dX4_readCloud_26 : decode cX4_readCloud 26 = .ok (.aload_n 0, 1) := by decide +kernel
theorem dX4_readCloud_27 : decode cX4_readCloud 27 = .ok (.iload_n 2, 1) := by decide +kernel
theorem dX4_readCloud_28 : decode cX4_readCloud 28 = .ok (.sipush 159, 3) := by decide +kernel
theorem dX4_readCloud_31 : decode cX4_readCloud 31 = .ok (.invokevirtual 114, 3) := by decide +kernel
theorem dX4_readCloud_34 : decode cX4_readCloud 34 = .ok (.istore_n 3, 1) := by decide +kernel
theorem dX4_readCloud_35 : decode cX4_readCloud 35 = .ok (.iload_n 3, 1) := by decide +kernel
theorem dX4_readCloud_36 : decode cX4_readCloud 36 = .ok (.iconst (-1), 1) := by decide +kernel
theorem dX4_readCloud_37 : decode cX4_readCloud 37 = .ok (.if_icmp .eq 37, 3) := by decide +kernel
theorem dX4_readCloud_40 : decode cX4_readCloud 40 = .ok (.aload_n 1, 1) := by decide +kernel
theorem dX4_readCloud_41 : decode cX4_readCloud 41 = .ok (.getfield 255, 3) := by decide +kernel
theorem dX4_readCloud_44 : decode cX4_readCloud 44 = .ok (.aload_n 1, 1) := by decide +kernel
theorem dX4_readCloud_45 : decode cX4_readCloud 45 = .ok (.getfield 167, 3) := by decide +kernel
theorem dX4_readCloud_48 : decode cX4_readCloud 48 = .ok (.iload_n 2, 1) := by decide +kernel
theorem dX4_readCloud_49 : decode cX4_readCloud 49 = .ok (.invokestatic 148, 3) := by decide +kernel
theorem dX4_readCloud_52 : decode cX4_readCloud 52 = .ok (.aload_n 1, 1) := by decide +kernel
theorem dX4_readCloud_53 : decode cX4_readCloud 53 = .ok (.getfield 258, 3) := by decide +kernel
theorem dX4_readCloud_56 : decode cX4_readCloud 56 = .ok (.aload_n 1, 1) := by decide +kernel
theorem dX4_readCloud_57 : decode cX4_readCloud 57 = .ok (.getfield 167, 3) := by decide +kernel
theorem dX4_readCloud_60 : decode cX4_readCloud 60 = .ok (.iload_n 3, 1) := by decide +kernel
theorem dX4_readCloud_61 : decode cX4_readCloud 61 = .ok (.invokestatic 148, 3) := by decide +kernel
theorem dX4_readCloud_64 : decode cX4_readCloud 64 = .ok (.aload_n 1, 1) := by decide +kernel
theorem dX4_readCloud_65 : decode cX4_readCloud 65 = .ok (.dup, 1) := by decide +kernel
theorem dX4_readCloud_66 : decode cX4_readCloud 66 = .ok (.getfield 167, 3) := by decide +kernel
theorem dX4_readCloud_69 : decode cX4_readCloud 69 = .ok (.iconst 1, 1) := by decide +kernel
theorem dX4_readCloud_70 : decode cX4_readCloud 70 = .ok (.iadd, 1) := by decide +kernel
theorem dX4_readCloud_71 : decode cX4_readCloud 71 = .ok (.putfield 167, 3) := by decide +kernel
theorem dX4_readCloud_74 : decode cX4_readCloud 74 = .ok (.return_, 1) := by decide +kernel
set_option maxRecDepth 20000 in
theorem ggX4_readCurtains_X6_sign : GoodIn wsX4_readCurtains wsX6_sign := goodIn_r _ [11, 12, 13, 14, 15, 84, 85, 86, 87, 88] (by decide +kernel) (by decide +kernel)
set_option maxRecDepth 20000 in
theorem gX4_readCurtains_X6_sign : GoodIn wsX4_readCurtains (wsV RX4 89 RX6 yX6_sign wsX6_sign) := goodIn_app (goodIn_of _ (by decide +kernel)) ggX4_readCurtains_X6_sign
set_option maxRecDepth 20000 in
theorem ggX4_readCurtains_X4_number : GoodIn wsX4_readCurtains wsX4_number := goodIn_ca (goodIn_r _ [20, 1, 2, 7, 8, 9, 10, 11, 12, 13, 14, 15, 21, 22, 23, 19, 24, 25, 26, 27, 28, 29, 30, 31, 32, 33, 34, 35, 36, 37, 38, 39, 46, 47, 48, 49, 50, 51, 52, 53, 54, 55, 56, 84, 85, 86, 87, 88] (by decide +kernel) (by decide +kernel)) (goodIn_sub (fun _ h => List.mem_cons_of_mem _ (List.mem_append_right _ h)) (by decide +kernel))
set_option maxRecDepth 20000 in
theorem gX4_readCurtains_X4_number : GoodIn wsX4_readCurtains (wsV RX4 105 RX4 yX4_number wsX4_number) := goodIn_app (goodIn_of _ (by decide +kernel)) ggX4_readCurtains_X4_number
set_option maxRecDepth 20000 in
theorem ggX4_readCurtains_X9_at : GoodIn wsX4_readCurtains wsX9_at := goodIn_ca (goodIn_r _ [39] (by decide +kernel) (by decide +kernel)) (goodIn_sub (fun _ h => List.mem_cons_of_mem _ (List.mem_append_right _ h)) (by decide +kernel))
set_option maxRecDepth 20000 in
theorem gX4_readCurtains_X9_at_n144 : GoodIn wsX4_readCurtains (wsX9_at) := ggX4_readCurtains_X9_at
set_option maxRecDepth 20000 in
theorem ggX4_readCurtains_X4_fail : GoodIn wsX4_readCurtains wsX4_fail := goodIn_ca (goodIn_r _ [24, 25, 1, 26, 27, 28, 29, 10, 30, 12, 31, 46, 47, 48, 49, 50, 51, 52, 53, 54, 55, 56, 84, 85, 86, 87, 88] (by decide +kernel) (by decide +kernel)) (goodIn_sub (fun _ h => List.mem_cons_of_mem _ (List.mem_append_right _ h)) (by decide +kernel))
set_option maxRecDepth 20000 in
theorem gX4_readCurtains_X4_fail : GoodIn wsX4_readCurtains (wsV RX4 99 RX4 yX4_fail wsX4_fail) := goodIn_app (goodIn_of _ (by decide +kernel)) ggX4_readCurtains_X4_fail
set_option maxRecDepth 20000 in
theorem ggX4_readCurtains_X9_put : GoodIn wsX4_readCurtains wsX9_put := goodIn_ca (goodIn_r _ [41] (by decide +kernel) (by decide +kernel)) (goodIn_sub (fun _ h => List.mem_cons_of_mem _ (List.mem_append_right _ h)) (by decide +kernel))
set_option maxRecDepth 20000 in
theorem gX4_readCurtains_X9_put_n148 : GoodIn wsX4_readCurtains (wsX9_put) := ggX4_readCurtains_X9_put
set_option maxRecDepth 20000 in
theorem ggX4_readCurtains_X6_goOn : GoodIn wsX4_readCurtains wsX6_goOn := goodIn_r _ [45, 12, 13, 84, 85, 86, 87, 88] (by decide +kernel) (by decide +kernel)
set_option maxRecDepth 20000 in
theorem gX4_readCurtains_X6_goOn : GoodIn wsX4_readCurtains (wsV RX4 108 RX6 yX6_goOn wsX6_goOn) := goodIn_app (goodIn_of _ (by decide +kernel)) ggX4_readCurtains_X6_goOn
theorem dX4_readCurtains_0 : decode cX4_readCurtains 0 = .ok (.iconst 0, 1) := by decide +kernel
theorem dX4_readCurtains_1 : decode cX4_readCurtains 1 = .ok (.istore_n 2, 1) := by decide +kernel
theorem dX4_readCurtains_2 : decode cX4_readCurtains 2 = .ok (.iload_n 2, 1) := by decide +kernel
theorem dX4_readCurtains_3 : decode cX4_readCurtains 3 = .ok (.sipush 500, 3) := by decide +kernel
theorem dX4_readCurtains_6 : decode cX4_readCurtains 6 = .ok (.if_icmp .ge 91, 3) := by decide +kernel
theorem dX4_readCurtains_9 : decode cX4_readCurtains 9 = .ok (.iload_n 2, 1) := by decide +kernel
theorem dX4_readCurtains_10 : decode cX4_readCurtains 10 = .ok (.ifCond .le 17, 3) := by decide +kernel
theorem dX4_readCurtains_13 : decode cX4_readCurtains 13 = .ok (.aload_n 0, 1) := by decide +kernel
theorem dX4_readCurtains_14 : decode cX4_readCurtains 14 = .ok (.getfield 12, 3) := by decide +kernel
theorem dX4_readCurtains_17 : decode cX4_readCurtains 17 = .ok (.invokevirtual 89, 3) := by decide +kernel
theorem dX4_readCurtains_20 : decode cX4_readCurtains 20 = .ok (.getstatic 93, 3) := by decide +kernel
theorem dX4_readCurtains_23 : decode cX4_readCurtains 23 = .ok (.if_acmp .eq 4, 3) := by decide +kernel
theorem dX4_readCurtains_26 : decode cX4_readCurtains 26 = .ok (.return_, 1) := by decide +kernel
theorem dX4_readCurtains_27 : decode cX4_readCurtains 27 = .ok (.aload_n 0, 1) := by decide +kernel
theorem dX4_readCurtains_28 : decode cX4_readCurtains 28 = .ok (.iconst 0, 1) := by decide +kernel
theorem dX4_readCurtains_29 : decode cX4_readCurtains 29 = .ok (.aload_n 0, 1) := by decide +kernel
theorem dX4_readCurtains_30 : decode cX4_readCurtains 30 = .ok (.getfield 25, 3) := by decide +kernel
theorem dX4_readCurtains_33 : decode cX4_readCurtains 33 = .ok (.getfield 117, 3) := by decide +kernel
theorem dX4_readCurtains_36 : decode cX4_readCurtains 36 = .ok (.getfield 126, 3) := by decide +kernel
theorem dX4_readCurtains_39 : decode cX4_readCurtains 39 = .ok (.iconst 1, 1) := by decide +kernel
theorem dX4_readCurtains_40 : decode cX4_readCurtains 40 = .ok (.isub, 1) := by decide +kernel
theorem dX4_readCurtains_41 : decode cX4_readCurtains 41 = .ok (.invokevirtual 105, 3) := by decide +kernel
theorem dX4_readCurtains_44 : decode cX4_readCurtains 44 = .ok (.istore_n 3, 1) := by decide +kernel
theorem dX4_readCurtains_45 : decode cX4_readCurtains 45 = .ok (.iload_n 3, 1) := by decide +kernel
theorem dX4_readCurtains_46 : decode cX4_readCurtains 46 = .ok (.iconst (-1), 1) := by decide +kernel
theorem dX4_readCurtains_47 : decode cX4_readCurtains 47 = .ok (.if_icmp .ne 4, 3) := by decide +kernel
theorem dX4_readCurtains_50 : decode cX4_readCurtains 50 = .ok (.return_, 1) := by decide +kernel
theorem dX4_readCurtains_51 : decode cX4_readCurtains 51 = .ok (.aload_n 0, 1) := by decide +kernel
theorem dX4_readCurtains_52 : decode cX4_readCurtains 52 = .ok (.getfield 25, 3) := by decide +kernel
theorem dX4_readCurtains_55 : decode cX4_readCurtains 55 = .ok (.getfield 261, 3) := by decide +kernel
theorem dX4_readCurtains_58 : decode cX4_readCurtains 58 = .ok (.iload_n 3, 1) := by decide +kernel
theorem dX4_readCurtains_59 : decode cX4_readCurtains 59 = .ok (.invokestatic 144, 3) := by decide +kernel
theorem dX4_readCurtains_62 : decode cX4_readCurtains 62 = .ok (.iload_n 1, 1) := by decide +kernel
theorem dX4_readCurtains_63 : decode cX4_readCurtains 63 = .ok (.if_icmp .ne 9, 3) := by decide +kernel
theorem dX4_readCurtains_66 : decode cX4_readCurtains 66 = .ok (.aload_n 0, 1) := by decide +kernel
theorem dX4_readCurtains_67 : decode cX4_readCurtains 67 = .ok (.iconst 3, 1) := by decide +kernel
theorem dX4_readCurtains_68 : decode cX4_readCurtains 68 = .ok (.invokevirtual 99, 3) := by decide +kernel
theorem dX4_readCurtains_71 : decode cX4_readCurtains 71 = .ok (.return_, 1) := by decide +kernel
theorem dX4_readCurtains_72 : decode cX4_readCurtains 72 = .ok (.aload_n 0, 1) := by decide +kernel
theorem dX4_readCurtains_73 : decode cX4_readCurtains 73 = .ok (.getfield 25, 3) := by decide +kernel
theorem dX4_readCurtains_76 : decode cX4_readCurtains 76 = .ok (.getfield 261, 3) := by decide +kernel
theorem dX4_readCurtains_79 : decode cX4_readCurtains 79 = .ok (.iload_n 3, 1) := by decide +kernel
theorem dX4_readCurtains_80 : decode cX4_readCurtains 80 = .ok (.iload_n 1, 1) := by decide +kernel
theorem dX4_readCurtains_81 : decode cX4_readCurtains 81 = .ok (.invokestatic 148, 3) := by decide +kernel
theorem dX4_readCurtains_84 : decode cX4_readCurtains 84 = .ok (.aload_n 0, 1) := by decide +kernel
theorem dX4_readCurtains_85 : decode cX4_readCurtains 85 = .ok (.getfield 12, 3) := by decide +kernel
theorem dX4_readCurtains_88 : decode cX4_readCurtains 88 = .ok (.invokevirtual 108, 3) := by decide +kernel
theorem dX4_readCurtains_91 : decode cX4_readCurtains 91 = .ok (.iinc 2 1, 3) := by decide +kernel
theorem dX4_readCurtains_94 : decode cX4_readCurtains 94 = .ok (.goto (-92), 3) := by decide +kernel
theorem dX4_readCurtains_97 : decode cX4_readCurtains 97 = .ok (.return_, 1) := by decide +kernel
set_option maxRecDepth 20000 in
theorem ggX4_readTiles_X6_sign : GoodIn wsX4_readTiles wsX6_sign := goodIn_r _ [10, 11, 12, 13, 14, 90, 91, 92, 93, 94] (by decide +kernel) (by decide +kernel)
set_option maxRecDepth 20000 in
theorem gX4_readTiles_X6_sign : GoodIn wsX4_readTiles (wsV RX4 89 RX6 yX6_sign wsX6_sign) := goodIn_app (goodIn_of _ (by decide +kernel)) ggX4_readTiles_X6_sign
set_option maxRecDepth 20000 in
theorem ggX4_readTiles_X4_readItem : GoodIn wsX4_readTiles wsX4_readItem := goodIn_ca (goodIn_r _ [19, 2, 4, 5, 20, 21, 22, 23, 24, 25, 6, 7, 8, 9, 10, 11, 12, 13, 14, 26, 27, 28, 29, 30, 31, 32, 33, 34, 35, 36, 37, 38, 39, 40, 18, 41, 3, 42, 43, 44, 45, 1, 46, 47, 48, 49, 50, 51, 52, 53, 54, 55, 56, 57, 58, 59, 60, 61, 62, 63, 64, 65, 66, 67, 68, 69, 70, 71, 72, 73, 74, 75, 76, 77, 78, 79, 80, 81, 82, 83, 84, 85, 86, 87, 88, 89, 95, 96, 97, 98, 99, 100, 101, 102, 103, 104, 105, 106, 107, 108, 109, 110, 111, 112, 113, 114, 115, 116, 117, 118, 119, 120, 121, 90, 91, 92, 93, 94] (by decide +kernel) (by decide +kernel)) (goodIn_sub (fun _ h => List.mem_cons_of_mem _ (List.mem_append_right _ h)) (by decide +kernel))
set_option maxRecDepth 20000 in
theorem gX4_readTiles_X4_readItem : GoodIn wsX4_readTiles (wsV RX4 270 RX4 yX4_readItem wsX4_readItem) := goodIn_app (goodIn_of _ (by decide +kernel)) ggX4_readTiles_X4_readItem
theorem dX4_readTiles_0 : decode cX4_readTiles 0 = .ok (.iconst 0, 1) := by decide +kernel
theorem dX4_readTiles_1 : decode cX4_readTiles 1 = .ok (.istore_n 2, 1) := by decide +kernel
theorem dX4_readTiles_2 : decode cX4_readTiles 2 = .ok (.iload_n 2, 1) := by decide +kernel
theorem dX4_readTiles_3 : decode cX4_readTiles 3 = .ok (.sipush 500, 3) := by decide +kernel
theorem dX4_readTiles_6 : decode cX4_readTiles 6 = .ok (.if_icmp .ge 55, 3) := by decide +kernel
theorem dX4_readTiles_9 : decode cX4_readTiles 9 = .ok (.aload_n 0, 1) := by decide +kernel
theorem dX4_readTiles_10 : decode cX4_readTiles 10 = .ok (.getfield 29, 3) := by decide +kernel
theorem dX4_readTiles_13 : decode cX4_readTiles 13 = .ok (.ifCond .ne 48, 3) := by decide +kernel
theorem dX4_readTiles_16 : decode cX4_readTiles 16 = .ok (.aload_n 0, 1) := by decide +kernel
theorem dX4_readTiles_17 : decode cX4_readTiles 17 = .ok (.getfield 12, 3) := by decide +kernel
theorem dX4_readTiles_20 : decode cX4_readTiles 20 = .ok (.invokevirtual 89, 3) := by decide +kernel
theorem dX4_readTiles_23 : decode cX4_readTiles 23 = .ok (.astore_n 3, 1) := by decide +kernel
theorem dX4_readTiles_24 : decode cX4_readTiles 24 = .ok (.iload_n 2, 1) := by decide +kernel
theorem dX4_readTiles_25 : decode cX4_readTiles 25 = .ok (.ifCond .le 25, 3) := by decide +kernel
theorem dX4_readTiles_28 : decode cX4_readTiles 28 = .ok (.aload_n 3, 1) := by decide +kernel
theorem dX4_readTiles_29 : decode cX4_readTiles 29 = .ok (.getstatic 93, 3) := by decide +kernel
theorem dX4_readTiles_32 : decode cX4_readTiles 32 = .ok (.if_acmp .eq 18, 3) := by decide +kernel
theorem dX4_readTiles_35 : decode cX4_readTiles 35 = .ok (.aload_n 3, 1) := by decide +kernel
theorem dX4_readTiles_36 : decode cX4_readTiles 36 = .ok (.getstatic 264, 3) := by decide +kernel
theorem dX4_readTiles_39 : decode cX4_readTiles 39 = .ok (.if_acmp .eq 11, 3) := by decide +kernel
theorem dX4_readTiles_42 : decode cX4_readTiles 42 = .ok (.aload_n 3, 1) := by decide +kernel
theorem dX4_readTiles_43 : decode cX4_readTiles 43 = .ok (.getstatic 267, 3) := by decide +kernel
theorem dX4_readTiles_46 : decode cX4_readTiles 46 = .ok (.if_acmp .eq 4, 3) := by decide +kernel
theorem dX4_readTiles_49 : decode cX4_readTiles 49 = .ok (.return_, 1) := by decide +kernel
theorem dX4_readTiles_50 : decode cX4_readTiles 50 = .ok (.aload_n 0, 1) := by decide +kernel
theorem dX4_readTiles_51 : decode cX4_readTiles 51 = .ok (.aload_n 1, 1) := by decide +kernel
theorem dX4_readTiles_52 : decode cX4_readTiles 52 = .ok (.invokevirtual 270, 3) := by decide +kernel
theorem dX4_readTiles_55 : decode cX4_readTiles 55 = .ok (.iinc 2 1, 3) := by decide +kernel
theorem dX4_readTiles_58 : decode cX4_readTiles 58 = .ok (.goto (-56), 3) := by decide +kernel
theorem dX4_readTiles_61 : decode cX4_readTiles 61 = .ok (.return_, 1) := by decide +kernel
set_option maxRecDepth 20000 in
theorem ggX4_readItem_X6_sign : GoodIn wsX4_readItem wsX6_sign := goodIn_r _ [14, 15, 16, 17, 18, 113, 114, 115, 116, 117] (by decide +kernel) (by decide +kernel)
set_option maxRecDepth 20000 in
theorem gX4_readItem_X6_sign : GoodIn wsX4_readItem (wsV RX4 89 RX6 yX6_sign wsX6_sign) := goodIn_app (goodIn_of _ (by decide +kernel)) ggX4_readItem_X6_sign
set_option maxRecDepth 20000 in
theorem ggX4_readItem_X6_goOn : GoodIn wsX4_readItem wsX6_goOn := goodIn_r _ [22, 15, 16, 113, 114, 115, 116, 117] (by decide +kernel) (by decide +kernel)
set_option maxRecDepth 20000 in
theorem gX4_readItem_X6_goOn : GoodIn wsX4_readItem (wsV RX4 108 RX6 yX6_goOn wsX6_goOn) := goodIn_app (goodIn_of _ (by decide +kernel)) ggX4_readItem_X6_goOn
set_option maxRecDepth 20000 in
theorem ggX4_readItem_X8_tileCount : GoodIn wsX4_readItem wsX8_tileCount := goodIn_r _ [27, 28, 29, 30, 86, 87, 88, 89, 90, 91, 92, 93, 94, 95, 96, 97, 98, 99, 100, 101, 102, 103, 104, 105, 106, 107, 108, 109, 110, 111, 112] (by decide +kernel) (by decide +kernel)
set_option maxRecDepth 20000 in
theorem gX4_readItem_X8_tileCount : GoodIn wsX4_readItem (wsV RX4 236 RX8 yX8_tileCount wsX8_tileCount) := goodIn_app (goodIn_of _ (by decide +kernel)) ggX4_readItem_X8_tileCount
set_option maxRecDepth 20000 in
theorem ggX4_readItem_X4_number : GoodIn wsX4_readItem wsX4_number := goodIn_ca (goodIn_r _ [35, 1, 36, 10, 11, 12, 13, 14, 15, 16, 17, 18, 37, 38, 39, 34, 40, 41, 42, 43, 44, 45, 46, 47, 48, 49, 50, 51, 52, 53, 54, 55, 75, 76, 77, 78, 79, 80, 81, 82, 83, 84, 85, 113, 114, 115, 116, 117] (by decide +kernel) (by decide +kernel)) (goodIn_sub (fun _ h => List.mem_cons_of_mem _ (List.mem_append_right _ h)) (by decide +kernel))
set_option maxRecDepth 20000 in
theorem gX4_readItem_X4_number : GoodIn wsX4_readItem (wsV RX4 105 RX4 yX4_number wsX4_number) := goodIn_app (goodIn_of _ (by decide +kernel)) ggX4_readItem_X4_number
set_option maxRecDepth 20000 in
theorem ggX4_readItem_X4_countWanted : GoodIn wsX4_readItem wsX4_countWanted := goodIn_ca (goodIn_r _ [59, 60, 61, 62, 34, 63, 8, 4, 9, 64, 65, 66, 75, 76, 77, 78, 79, 80, 81, 82, 83, 84, 85, 86, 87, 88, 89, 90, 91, 92, 93, 94, 95, 96, 97, 98, 99] (by decide +kernel) (by decide +kernel)) (goodIn_sub (fun _ h => List.mem_cons_of_mem _ (List.mem_append_right _ h)) (by decide +kernel))
set_option maxRecDepth 20000 in
theorem gX4_readItem_X4_countWanted : GoodIn wsX4_readItem (wsV RX4 273 RX4 yX4_countWanted wsX4_countWanted) := goodIn_app (goodIn_of _ (by decide +kernel)) ggX4_readItem_X4_countWanted
set_option maxRecDepth 20000 in
theorem ggX4_readItem_X4_fail : GoodIn wsX4_readItem wsX4_fail := goodIn_ca (goodIn_r _ [40, 41, 1, 42, 43, 44, 45, 13, 46, 15, 47, 75, 76, 77, 78, 79, 80, 81, 82, 83, 84, 85, 113, 114, 115, 116, 117] (by decide +kernel) (by decide +kernel)) (goodIn_sub (fun _ h => List.mem_cons_of_mem _ (List.mem_append_right _ h)) (by decide +kernel))
set_option maxRecDepth 20000 in
theorem gX4_readItem_X4_fail : GoodIn wsX4_readItem (wsV RX4 99 RX4 yX4_fail wsX4_fail) := goodIn_app (goodIn_of _ (by decide +kernel)) ggX4_readItem_X4_fail
set_option maxRecDepth 20000 in
theorem ggX4_readItem_X9_countMarked : GoodIn wsX4_readItem wsX9_countMarked := goodIn_ca (goodIn_r _ [68] (by decide +kernel) (by decide +kernel)) (goodIn_sub (fun _ h => List.mem_cons_of_mem _ (List.mem_append_right _ h)) (by decide +kernel))
set_option maxRecDepth 20000 in
theorem gX4_readItem_X9_countMarked_n283 : GoodIn wsX4_readItem (wsX9_countMarked) := ggX4_readItem_X9_countMarked
set_option maxRecDepth 20000 in
theorem ggX4_readItem_X4_handleLine : GoodIn wsX4_readItem wsX4_handleLine := goodIn_ca (goodIn_r _ [72, 8, 4, 9, 65, 66, 64, 60, 61, 62, 34, 63, 73, 54, 74, 75, 76, 77, 78, 79, 80, 81, 82, 83, 84, 85, 86, 87, 88, 89, 90, 91, 92, 93, 94, 95, 96, 97, 98, 99] (by decide +kernel) (by decide +kernel)) (goodIn_sub (fun _ h => List.mem_cons_of_mem _ (List.mem_append_right _ h)) (by decide +kernel))
set_option maxRecDepth 20000 in
theorem gX4_readItem_X4_handleLine : GoodIn wsX4_readItem (wsV RX4 287 RX4 yX4_handleLine wsX4_handleLine) := goodIn_app (goodIn_of _ (by decide +kernel)) ggX4_readItem_X4_handleLine
theorem dX4_readItem_0 : decode cX4_readItem 0 = .ok (.aload_n 0, 1) := by decide +kernel
theorem dX4_readItem_1 : decode cX4_readItem 1 = .ok (.getfield 12, 3) := by decide +kernel
theorem dX4_readItem_4 : decode cX4_readItem 4 = .ok (.invokevirtual 89, 3) := by decide +kernel
theorem dX4_readItem_7 : decode cX4_readItem 7 = .ok (.getstatic 264, 3) := by decide +kernel
theorem dX4_readItem_10 : decode cX4_readItem 10 = .ok (.if_acmp .ne 7, 3) := by decide +kernel
theorem dX4_readItem_13 : decode cX4_readItem 13 = .ok (.iconst 1, 1) := by decide +kernel
theorem dX4_readItem_14 : decode cX4_readItem 14 = .ok (.goto 4, 3) := by decide +kernel
theorem dX4_readItem_17 : decode cX4_readItem 17 = .ok (.iconst 0, 1) := by decide +kernel
theorem dX4_readItem_18 : decode cX4_readItem 18 = .ok (.istore_n 2, 1) := by decide +kernel
theorem dX4_readItem_19 : decode cX4_readItem 19 = .ok (.aload_n 0, 1) := by decide +kernel
theorem dX4_readItem_20 : decode cX4_readItem 20 = .ok (.getfield 12, 3) := by decide +kernel
theorem dX4_readItem_23 : decode cX4_readItem 23 = .ok (.invokevirtual 89, 3) := by decide +kernel
theorem dX4_readItem_26 : decode cX4_readItem 26 = .ok (.getstatic 267, 3) := by decide +kernel
theorem dX4_readItem_29 : decode cX4_readItem 29 = .ok (.if_acmp .ne 7, 3) := by decide +kernel
theorem dX4_readItem_32 : decode cX4_readItem 32 = .ok (.iconst 1, 1) := by decide +kernel
theorem dX4_readItem_33 : decode cX4_readItem 33 = .ok (.goto 4, 3) := by decide +kernel
theorem dX4_readItem_36 : decode cX4_readItem 36 = .ok (.iconst 0, 1) := by decide +kernel
theorem dX4_readItem_37 : decode cX4_readItem 37 = .ok (.istore_n 3, 1) := by decide +kernel
theorem dX4_readItem_38 : decode cX4_readItem 38 = .ok (.iload_n 2, 1) := by decide +kernel
theorem dX4_readItem_39 : decode cX4_readItem 39 = .ok (.ifCond .ne 7, 3) := by decide +kernel
theorem dX4_readItem_42 : decode cX4_readItem 42 = .ok (.iload_n 3, 1) := by decide +kernel
theorem dX4_readItem_43 : decode cX4_readItem 43 = .ok (.ifCond .eq 10, 3) := by decide +kernel
theorem dX4_readItem_46 : decode cX4_readItem 46 = .ok (.aload_n 0, 1) := by decide +kernel
theorem dX4_readItem_47 : decode cX4_readItem 47 = .ok (.getfield 12, 3) := by decide +kernel
theorem dX4_readItem_50 : decode cX4_readItem 50 = .ok (.invokevirtual 108, 3) := by decide +kernel
theorem dX4_readItem_53 : decode cX4_readItem 53 = .ok (.aload_n 0, 1) := by decide +kernel
theorem dX4_readItem_54 : decode cX4_readItem 54 = .ok (.getfield 25, 3) := by decide +kernel
theorem dX4_readItem_57 : decode cX4_readItem 57 = .ok (.getfield 117, 3) := by decide +kernel
theorem dX4_readItem_60 : decode cX4_readItem 60 = .ok (.astore 4, 2) := by decide +kernel
theorem dX4_readItem_62 : decode cX4_readItem 62 = .ok (.iload_n 2, 1) := by decide +kernel
theorem dX4_readItem_63 : decode cX4_readItem 63 = .ok (.ifCond .eq 11, 3) := by decide +kernel
theorem dX4_readItem_66 : decode cX4_readItem 66 = .ok (.aload 4, 2) := by decide +kernel
theorem dX4_readItem_68 : decode cX4_readItem 68 = .ok (.getfield 121, 3) := by decide +kernel
theorem dX4_readItem_71 : decode cX4_readItem 71 = .ok (.goto 22, 3) := by decide +kernel
theorem dX4_readItem_74 : decode cX4_readItem 74 = .ok (.iload_n 3, 1) := by decide +kernel
theorem dX4_readItem_75 : decode cX4_readItem 75 = .ok (.ifCond .eq 11, 3) := by decide +kernel
theorem dX4_readItem_78 : decode cX4_readItem 78 = .ok (.aload 4, 2) := by decide +kernel
theorem dX4_readItem_80 : decode cX4_readItem 80 = .ok (.getfield 126, 3) := by decide +kernel
theorem dX4_readItem_83 : decode cX4_readItem 83 = .ok (.goto 10, 3) := by decide +kernel
theorem dX4_readItem_86 : decode cX4_readItem 86 = .ok (.aload_n 0, 1) := by decide +kernel
theorem dX4_readItem_87 : decode cX4_readItem 87 = .ok (.getfield 25, 3) := by decide +kernel
theorem dX4_readItem_90 : decode cX4_readItem 90 = .ok (.invokevirtual 236, 3) := by decide +kernel
theorem dX4_readItem_93 : decode cX4_readItem 93 = .ok (.istore 5, 2) := by decide +kernel
theorem dX4_readItem_95 : decode cX4_readItem 95 = .ok (.aload_n 0, 1) := by decide +kernel
theorem dX4_readItem_96 : decode cX4_readItem 96 = .ok (.iconst 0, 1) := by decide +kernel
theorem dX4_readItem_97 : decode cX4_readItem 97 = .ok (.iload 5, 2) := by decide +kernel
theorem dX4_readItem_99 : decode cX4_readItem 99 = .ok (.iconst 1, 1) := by decide +kernel
theorem dX4_readItem_100 : decode cX4_readItem 100 = .ok (.isub, 1) := by decide +kernel
theorem dX4_readItem_101 : decode cX4_readItem 101 = .ok (.invokevirtual 105, 3) := by decide +kernel
theorem dX4_readItem_104 : decode cX4_readItem 104 = .ok (.istore 6, 2) := by decide +kernel
theorem dX4_readItem_106 : decode cX4_readItem 106 = .ok (.iload 6, 2) := by decide +kernel
theorem dX4_readItem_108 : decode cX4_readItem 108 = .ok (.iconst (-1), 1) := by decide +kernel
theorem dX4_readItem_109 : decode cX4_readItem 109 = .ok (.if_icmp .ne 4, 3) := by decide +kernel
theorem dX4_readItem_112 : decode cX4_readItem 112 = .ok (.return_, 1) := by decide +kernel
theorem dX4_readItem_113 : decode cX4_readItem 113 = .ok (.iload_n 2, 1) := by decide +kernel
theorem dX4_readItem_114 : decode cX4_readItem 114 = .ok (.ifCond .eq 14, 3) := by decide +kernel
theorem dX4_readItem_117 : decode cX4_readItem 117 = .ok (.iload 6, 2) := by decide +kernel
theorem dX4_readItem_119 : decode cX4_readItem 119 = .ok (.aload 4, 2) := by decide +kernel
theorem dX4_readItem_121 : decode cX4_readItem 121 = .ok (.getfield 126, 3) := by decide +kernel
theorem dX4_readItem_124 : decode cX4_readItem 124 = .ok (.imul, 1) := by decide +kernel
theorem dX4_readItem_125 : decode cX4_readItem 125 = .ok (.goto 5, 3) := by decide +kernel
theorem dX4_readItem_128 : decode cX4_readItem 128 = .ok (.iload 6, 2) := by decide +kernel
theorem dX4_readItem_130 : decode cX4_readItem 130 = .ok (.istore 7, 2) := by decide +kernel
theorem dX4_readItem_132 : decode cX4_readItem 132 = .ok (.iload_n 3, 1) := by decide +kernel
theorem dX4_readItem_133 : decode cX4_readItem 133 = .ok (.ifCond .eq 11, 3) := by decide +kernel
theorem dX4_readItem_136 : decode cX4_readItem 136 = .ok (.aload 4, 2) := by decide +kernel
theorem dX4_readItem_138 : decode cX4_readItem 138 = .ok (.getfield 126, 3) := by decide +kernel
theorem dX4_readItem_141 : decode cX4_readItem 141 = .ok (.goto 4, 3) := by decide +kernel
theorem dX4_readItem_144 : decode cX4_readItem 144 = .ok (.iconst 1, 1) := by decide +kernel
theorem dX4_readItem_145 : decode cX4_readItem 145 = .ok (.istore 8, 2) := by decide +kernel
theorem dX4_readItem_147 : decode cX4_readItem 147 = .ok (.iload_n 2, 1) := by decide +kernel
theorem dX4_readItem_148 : decode cX4_readItem 148 = .ok (.ifCond .eq 11, 3) := by decide +kernel
theorem dX4_readItem_151 : decode cX4_readItem 151 = .ok (.aload 4, 2) := by decide +kernel
theorem dX4_readItem_153 : decode cX4_readItem 153 = .ok (.getfield 126, 3) := by decide +kernel
theorem dX4_readItem_156 : decode cX4_readItem 156 = .ok (.goto 16, 3) := by decide +kernel
theorem dX4_readItem_159 : decode cX4_readItem 159 = .ok (.iload_n 3, 1) := by decide +kernel
theorem dX4_readItem_160 : decode cX4_readItem 160 = .ok (.ifCond .eq 11, 3) := by decide +kernel
theorem dX4_readItem_163 : decode cX4_readItem 163 = .ok (.aload 4, 2) := by decide +kernel
theorem dX4_readItem_165 : decode cX4_readItem 165 = .ok (.getfield 121, 3) := by decide +kernel
theorem dX4_readItem_168 : decode cX4_readItem 168 = .ok (.goto 4, 3) := by decide +kernel
theorem dX4_readItem_171 : decode cX4_readItem 171 = .ok (.iconst 1, 1) := by decide +kernel
theorem dX4_readItem_172 : decode cX4_readItem 172 = .ok (.istore 9, 2) := by decide +kernel
theorem dX4_readItem_174 : decode cX4_readItem 174 = .ok (.aload_n 0, 1) := by decide +kernel
theorem dX4_readItem_175 : decode cX4_readItem 175 = .ok (.aload_n 1, 1) := by decide +kernel
theorem dX4_readItem_176 : decode cX4_readItem 176 = .ok (.iload 7, 2) := by decide +kernel
theorem dX4_readItem_178 : decode cX4_readItem 178 = .ok (.iload 8, 2) := by decide +kernel
theorem dX4_readItem_180 : decode cX4_readItem 180 = .ok (.iload 9, 2) := by decide +kernel
theorem dX4_readItem_182 : decode cX4_readItem 182 = .ok (.invokevirtual 273, 3) := by decide +kernel
theorem dX4_readItem_185 : decode cX4_readItem 185 = .ok (.istore 10, 2) := by decide +kernel
theorem dX4_readItem_187 : decode cX4_readItem 187 = .ok (.iload 10, 2) := by decide +kernel
theorem dX4_readItem_189 : decode cX4_readItem 189 = .ok (.ifCond .ne 19, 3) := by decide +kernel
theorem dX4_readItem_192 : decode cX4_readItem 192 = .ok (.iload_n 2, 1) := by decide +kernel
theorem dX4_readItem_193 : decode cX4_readItem 193 = .ok (.ifCond .ne 15, 3) := by decide +kernel
theorem dX4_readItem_196 : decode cX4_readItem 196 = .ok (.iload_n 3, 1) := by decide +kernel
theorem dX4_readItem_197 : decode cX4_readItem 197 = .ok (.ifCond .ne 11, 3) := by decide +kernel
theorem dX4_readItem_200 : decode cX4_readItem 200 = .ok (.aload_n 0, 1) := by decide +kernel
theorem dX4_readItem_201 : decode cX4_readItem 201 = .ok (.iconst 3, 1) := by decide +kernel
theorem dX4_readItem_202 : decode cX4_readItem 202 = .ok (.invokevirtual 99, 3) := by decide +kernel
theorem dX4_readItem_205 : decode cX4_readItem 205 = .ok (.goto 54, 3) := by decide +kernel
theorem dX4_readItem_208 : decode cX4_readItem 208 = .ok (.aload_n 1, 1) := by decide +kernel
theorem dX4_readItem_209 : decode cX4_readItem 209 = .ok (.getstatic 277, 3) := by decide +kernel
theorem dX4_readItem_212 : decode cX4_readItem 212 = .ok (.if_acmp .ne 29, 3) := by decide +kernel
theorem dX4_readItem_215 : decode cX4_readItem 215 = .ok (.aload_n 0, 1) := by decide +kernel
theorem dX4_readItem_216 : decode cX4_readItem 216 = .ok (.getfield 25, 3) := by decide +kernel
theorem dX4_readItem_219 : decode cX4_readItem 219 = .ok (.getfield 280, 3) := by decide +kernel
theorem dX4_readItem_222 : decode cX4_readItem 222 = .ok (.invokestatic 283, 3) := by decide +kernel
theorem dX4_readItem_225 : decode cX4_readItem 225 = .ok (.iload 10, 2) := by decide +kernel
theorem dX4_readItem_227 : decode cX4_readItem 227 = .ok (.iadd, 1) := by decide +kernel
theorem dX4_readItem_228 : decode cX4_readItem 228 = .ok (.bipush 6, 2) := by decide +kernel
theorem dX4_readItem_230 : decode cX4_readItem 230 = .ok (.if_icmp .le 11, 3) := by decide +kernel
theorem dX4_readItem_233 : decode cX4_readItem 233 = .ok (.aload_n 0, 1) := by decide +kernel
theorem dX4_readItem_234 : decode cX4_readItem 234 = .ok (.iconst 4, 1) := by decide +kernel
theorem dX4_readItem_235 : decode cX4_readItem 235 = .ok (.invokevirtual 99, 3) := by decide +kernel
theorem dX4_readItem_238 : decode cX4_readItem 238 = .ok (.goto 21, 3) := by decide +kernel
theorem dX4_readItem_241 : decode cX4_readItem 241 = .ok (.aload_n 0, 1) := by decide +kernel
theorem dX4_readItem_242 : decode cX4_readItem 242 = .ok (.aload_n 1, 1) := by decide +kernel
theorem dX4_readItem_243 : decode cX4_readItem 243 = .ok (.iload 7, 2) := by decide +kernel
theorem dX4_readItem_245 : decode cX4_readItem 245 = .ok (.iload 8, 2) := by decide +kernel
theorem dX4_readItem_247 : decode cX4_readItem 247 = .ok (.iload 9, 2) := by decide +kernel
theorem dX4_readItem_249 : decode cX4_readItem 249 = .ok (.invokevirtual 287, 3) := by decide +kernel
theorem dX4_readItem_252 : decode cX4_readItem 252 = .ok (.aload_n 0, 1) := by decide +kernel
theorem dX4_readItem_253 : decode cX4_readItem 253 = .ok (.getfield 12, 3) := by decide +kernel
theorem dX4_readItem_256 : decode cX4_readItem 256 = .ok (.invokevirtual 108, 3) := by decide +kernel
theorem dX4_readItem_259 : decode cX4_readItem 259 = .ok (.return_, 1) := by decide +kernel
set_option maxRecDepth 20000 in
theorem ggX4_countWanted_X4_isWanted : GoodIn wsX4_countWanted wsX4_isWanted := goodIn_ca (goodIn_r _ [5, 6, 7, 8, 9, 10, 11, 12, 13, 14, 15, 16, 17, 18, 19, 20, 21, 22, 23, 24, 25, 26, 27, 28, 29, 30, 31, 32, 33, 34, 35, 36] (by decide +kernel) (by decide +kernel)) (goodIn_sub (fun _ h => List.mem_cons_of_mem _ (List.mem_append_right _ h)) (by decide +kernel))
set_option maxRecDepth 20000 in
theorem gX4_countWanted_X4_isWanted : GoodIn wsX4_countWanted (wsV RX4 291 RX4 yX4_isWanted wsX4_isWanted) := goodIn_app (goodIn_of _ (by decide +kernel)) ggX4_countWanted_X4_isWanted
theorem dX4_countWanted_0 : decode cX4_countWanted 0 = .ok (.iconst 0, 1) := by decide +kernel
theorem dX4_countWanted_1 : decode cX4_countWanted 1 = .ok (.istore 5, 2) := by decide +kernel
theorem dX4_countWanted_3 : decode cX4_countWanted 3 = .ok (.iconst 0, 1) := by decide +kernel
theorem dX4_countWanted_4 : decode cX4_countWanted 4 = .ok (.istore 6, 2) := by decide +kernel
theorem dX4_countWanted_6 : decode cX4_countWanted 6 = .ok (.iload 6, 2) := by decide +kernel
theorem dX4_countWanted_8 : decode cX4_countWanted 8 = .ok (.iload 4, 2) := by decide +kernel
theorem dX4_countWanted_10 : decode cX4_countWanted 10 = .ok (.if_icmp .ge 26, 3) := by decide +kernel
theorem dX4_countWanted_13 : decode cX4_countWanted 13 = .ok (.aload_n 0, 1) := by decide +kernel
theorem dX4_countWanted_14 : decode cX4_countWanted 14 = .ok (.aload_n 1, 1) := by decide +kernel
theorem dX4_countWanted_15 : decode cX4_countWanted 15 = .ok (.iload_n 2, 1) := by decide +kernel
theorem dX4_countWanted_16 : decode cX4_countWanted 16 = .ok (.iload 6, 2) := by decide +kernel
theorem dX4_countWanted_18 : decode cX4_countWanted 18 = .ok (.iload_n 3, 1) := by decide +kernel
theorem dX4_countWanted_19 : decode cX4_countWanted 19 = .ok (.imul, 1) := by decide +kernel
theorem dX4_countWanted_20 : decode cX4_countWanted 20 = .ok (.iadd, 1) := by decide +kernel
theorem dX4_countWanted_21 : decode cX4_countWanted 21 = .ok (.invokevirtual 291, 3) := by decide +kernel
theorem dX4_countWanted_24 : decode cX4_countWanted 24 = .ok (.ifCond .eq 6, 3) := by decide +kernel
theorem dX4_countWanted_27 : decode cX4_countWanted 27 = .ok (.iinc 5 1, 3) := by decide +kernel
theorem dX4_countWanted_30 : decode cX4_countWanted 30 = .ok (.iinc 6 1, 3) := by decide +kernel
theorem dX4_countWanted_33 : decode cX4_countWanted 33 = .ok (.goto (-27), 3) := by decide +kernel
theorem dX4_countWanted_36 : decode cX4_countWanted 36 = .ok (.iload 5, 2) := by decide +kernel
theorem dX4_countWanted_38 : decode cX4_countWanted 38 = .ok (.ireturn, 1) := by decide +kernel
theorem dX4_isWanted_0 : decode cX4_isWanted 0 = .ok (.iload_n 2, 1) := by decide +kernel
theorem dX4_isWanted_1 : decode cX4_isWanted 1 = .ok (.ifCond .lt 9, 3) := by decide +kernel
theorem dX4_isWanted_4 : decode cX4_isWanted 4 = .ok (.iload_n 2, 1) := by decide +kernel
theorem dX4_isWanted_5 : decode cX4_isWanted 5 = .ok (.bipush 80, 2) := by decide +kernel
theorem dX4_isWanted_7 : decode cX4_isWanted 7 = .ok (.if_icmp .lt 5, 3) := by decide +kernel
theorem dX4_isWanted_10 : decode cX4_isWanted 10 = .ok (.iconst 0, 1) := by decide +kernel
theorem dX4_isWanted_11 : decode cX4_isWanted 11 = .ok (.ireturn, 1) := by decide +kernel
theorem dX4_isWanted_12 : decode cX4_isWanted 12 = .ok (.aload_n 1, 1) := by decide +kernel
theorem dX4_isWanted_13 : decode cX4_isWanted 13 = .ok (.getstatic 277, 3) := by decide +kernel
theorem dX4_isWanted_16 : decode cX4_isWanted 16 = .ok (.if_acmp .ne 21, 3) := by decide +kernel
theorem dX4_isWanted_19 : decode cX4_isWanted 19 = .ok (.aload_n 0, 1) := by decide +kernel
theorem dX4_isWanted_20 : decode cX4_isWanted 20 = .ok (.getfield 25, 3) := by decide +kernel
theorem dX4_isWanted_23 : decode cX4_isWanted 23 = .ok (.getfield 280, 3) := by decide +kernel
theorem dX4_isWanted_26 : decode cX4_isWanted 26 = .ok (.iload_n 2, 1) := by decide +kernel
theorem dX4_isWanted_27 : decode cX4_isWanted 27 = .ok (.iaload, 1) := by decide +kernel
theorem dX4_isWanted_28 : decode cX4_isWanted 28 = .ok (.ifCond .ne 7, 3) := by decide +kernel
theorem dX4_isWanted_31 : decode cX4_isWanted 31 = .ok (.iconst 1, 1) := by decide +kernel
theorem dX4_isWanted_32 : decode cX4_isWanted 32 = .ok (.goto 4, 3) := by decide +kernel
theorem dX4_isWanted_35 : decode cX4_isWanted 35 = .ok (.iconst 0, 1) := by decide +kernel
theorem dX4_isWanted_36 : decode cX4_isWanted 36 = .ok (.ireturn, 1) := by decide +kernel
theorem dX4_isWanted_37 : decode cX4_isWanted 37 = .ok (.aload_n 0, 1) := by decide +kernel
theorem dX4_isWanted_38 : decode cX4_isWanted 38 = .ok (.getfield 25, 3) := by decide +kernel
theorem dX4_isWanted_41 : decode cX4_isWanted 41 = .ok (.getfield 295, 3) := by decide +kernel
theorem dX4_isWanted_44 : decode cX4_isWanted 44 = .ok (.iload_n 2, 1) := by decide +kernel
theorem dX4_isWanted_45 : decode cX4_isWanted 45 = .ok (.iaload, 1) := by decide +kernel
theorem dX4_isWanted_46 : decode cX4_isWanted 46 = .ok (.ifCond .le 7, 3) := by decide +kernel
theorem dX4_isWanted_49 : decode cX4_isWanted 49 = .ok (.iconst 1, 1) := by decide +kernel
theorem dX4_isWanted_50 : decode cX4_isWanted 50 = .ok (.goto 4, 3) := by decide +kernel
theorem dX4_isWanted_53 : decode cX4_isWanted 53 = .ok (.iconst 0, 1) := by decide +kernel
theorem dX4_isWanted_54 : decode cX4_isWanted 54 = .ok (.istore_n 3, 1) := by decide +kernel
theorem dX4_isWanted_55 : decode cX4_isWanted 55 = .ok (.aload_n 1, 1) := by decide +kernel
theorem dX4_isWanted_56 : decode cX4_isWanted 56 = .ok (.getstatic 298, 3) := by decide +kernel
theorem dX4_isWanted_59 : decode cX4_isWanted 59 = .ok (.if_acmp .ne 27, 3) := by decide +kernel
theorem dX4_isWanted_62 : decode cX4_isWanted 62 = .ok (.iload_n 3, 1) := by decide +kernel
theorem dX4_isWanted_63 : decode cX4_isWanted 63 = .ok (.ifCond .ne 19, 3) := by decide +kernel
theorem dX4_isWanted_66 : decode cX4_isWanted 66 = .ok (.aload_n 0, 1) := by decide +kernel
theorem dX4_isWanted_67 : decode cX4_isWanted 67 = .ok (.getfield 25, 3) := by decide +kernel
theorem dX4_isWanted_70 : decode cX4_isWanted 70 = .ok (.getfield 301, 3) := by decide +kernel
theorem dX4_isWanted_73 : decode cX4_isWanted 73 = .ok (.iload_n 2, 1) := by decide +kernel
theorem dX4_isWanted_74 : decode cX4_isWanted 74 = .ok (.iaload, 1) := by decide +kernel
theorem dX4_isWanted_75 : decode cX4_isWanted 75 = .ok (.ifCond .ne 7, 3) := by decide +kernel
theorem dX4_isWanted_78 : decode cX4_isWanted 78 = .ok (.iconst 1, 1) := by decide +kernel
theorem dX4_isWanted_79 : decode cX4_isWanted 79 = .ok (.goto 8, 3) := by decide +kernel
theorem dX4_isWanted_82 : decode cX4_isWanted 82 = .ok (.iconst 0, 1) := by decide +kernel
theorem dX4_isWanted_83 : decode cX4_isWanted 83 = .ok (.goto 4, 3) := by decide +kernel
theorem dX4_isWanted_86 : decode cX4_isWanted 86 = .ok (.iload_n 3, 1) := by decide +kernel
theorem dX4_isWanted_87 : decode cX4_isWanted 87 = .ok (.ireturn, 1) := by decide +kernel
set_option maxRecDepth 20000 in
theorem ggX4_handleLine_X4_isWanted : GoodIn wsX4_handleLine wsX4_isWanted := goodIn_ca (goodIn_r _ [11, 1, 2, 3, 6, 4, 5, 15, 16, 17, 18, 19, 20, 21, 22, 23, 24, 25, 26, 27, 28, 29, 30, 31, 32, 33, 34, 35, 36, 37, 38, 39] (by decide +kernel) (by decide +kernel)) (goodIn_sub (fun _ h => List.mem_cons_of_mem _ (List.mem_append_right _ h)) (by decide +kernel))
set_option maxRecDepth 20000 in
theorem gX4_handleLine_X4_isWanted : GoodIn wsX4_handleLine (wsV RX4 291 RX4 yX4_isWanted wsX4_isWanted) := goodIn_app (goodIn_of _ (by decide +kernel)) ggX4_handleLine_X4_isWanted
set_option maxRecDepth 20000 in
theorem ggX4_handleLine_X9_put : GoodIn wsX4_handleLine wsX9_put := goodIn_ca (goodIn_r _ [14] (by decide +kernel) (by decide +kernel)) (goodIn_sub (fun _ h => List.mem_cons_of_mem _ (List.mem_append_right _ h)) (by decide +kernel))
set_option maxRecDepth 20000 in
theorem gX4_handleLine_X9_put_n148 : GoodIn wsX4_handleLine (wsX9_put) := ggX4_handleLine_X9_put
theorem dX4_handleLine_0 : decode cX4_handleLine 0 = .ok (.iconst 0, 1) := by decide +kernel
theorem dX4_handleLine_1 : decode cX4_handleLine 1 = .ok (.istore 5, 2) := by decide +kernel
theorem dX4_handleLine_3 : decode cX4_handleLine 3 = .ok (.iload 5, 2) := by decide +kernel
theorem dX4_handleLine_5 : decode cX4_handleLine 5 = .ok (.iload 4, 2) := by decide +kernel
theorem dX4_handleLine_7 : decode cX4_handleLine 7 = .ok (.if_icmp .ge 89, 3) := by decide +kernel
theorem dX4_handleLine_10 : decode cX4_handleLine 10 = .ok (.iload_n 2, 1) := by decide +kernel
theorem dX4_handleLine_11 : decode cX4_handleLine 11 = .ok (.iload 5, 2) := by decide +kernel
theorem dX4_handleLine_13 : decode cX4_handleLine 13 = .ok (.iload_n 3, 1) := by decide +kernel
theorem dX4_handleLine_14 : decode cX4_handleLine 14 = .ok (.imul, 1) := by decide +kernel
theorem dX4_handleLine_15 : decode cX4_handleLine 15 = .ok (.iadd, 1) := by decide +kernel
theorem dX4_handleLine_16 : decode cX4_handleLine 16 = .ok (.istore 6, 2) := by decide +kernel
theorem dX4_handleLine_18 : decode cX4_handleLine 18 = .ok (.aload_n 0, 1) := by decide +kernel
theorem dX4_handleLine_19 : decode cX4_handleLine 19 = .ok (.aload_n 1, 1) := by decide +kernel
theorem dX4_handleLine_20 : decode cX4_handleLine 20 = .ok (.iload 6, 2) := by decide +kernel
theorem dX4_handleLine_22 : decode cX4_handleLine 22 = .ok (.invokevirtual 291, 3) := by decide +kernel
theorem dX4_handleLine_25 : decode cX4_handleLine 25 = .ok (.ifCond .ne 6, 3) := by decide +kernel
theorem dX4_handleLine_28 : decode cX4_handleLine 28 = .ok (.goto 62, 3) := by decide +kernel
theorem dX4_handleLine_31 : decode cX4_handleLine 31 = .ok (.aload_n 1, 1) := by decide +kernel
theorem dX4_handleLine_32 : decode cX4_handleLine 32 = .ok (.getstatic 277, 3) := by decide +kernel
theorem dX4_handleLine_35 : decode cX4_handleLine 35 = .ok (.if_acmp .ne 19, 3) := by decide +kernel
theorem dX4_handleLine_38 : decode cX4_handleLine 38 = .ok (.aload_n 0, 1) := by decide +kernel
theorem dX4_handleLine_39 : decode cX4_handleLine 39 = .ok (.getfield 25, 3) := by decide +kernel
theorem dX4_handleLine_42 : decode cX4_handleLine 42 = .ok (.getfield 280, 3) := by decide +kernel
theorem dX4_handleLine_45 : decode cX4_handleLine 45 = .ok (.iload 6, 2) := by decide +kernel
theorem dX4_handleLine_47 : decode cX4_handleLine 47 = .ok (.iconst 1, 1) := by decide +kernel
theorem dX4_handleLine_48 : decode cX4_handleLine 48 = .ok (.invokestatic 148, 3) := by decide +kernel
theorem dX4_handleLine_51 : decode cX4_handleLine 51 = .ok (.goto 39, 3) := by decide +kernel
theorem dX4_handleLine_54 : decode cX4_handleLine 54 = .ok (.aload_n 1, 1) := by decide +kernel
theorem dX4_handleLine_55 : decode cX4_handleLine 55 = .ok (.getstatic 298, 3) := by decide +kernel
theorem dX4_handleLine_58 : decode cX4_handleLine 58 = .ok (.if_acmp .ne 19, 3) := by decide +kernel
theorem dX4_handleLine_61 : decode cX4_handleLine 61 = .ok (.aload_n 0, 1) := by decide +kernel
theorem dX4_handleLine_62 : decode cX4_handleLine 62 = .ok (.getfield 25, 3) := by decide +kernel
theorem dX4_handleLine_65 : decode cX4_handleLine 65 = .ok (.getfield 301, 3) := by decide +kernel
theorem dX4_handleLine_68 : decode cX4_handleLine 68 = .ok (.iload 6, 2) := by decide +kernel
theorem dX4_handleLine_70 : decode cX4_handleLine 70 = .ok (.iconst 1, 1) := by decide +kernel
theorem dX4_handleLine_71 : decode cX4_handleLine 71 = .ok (.invokestatic 148, 3) := by decide +kernel
theorem dX4_handleLine_74 : decode cX4_handleLine 74 = .ok (.goto 16, 3) := by decide +kernel
theorem dX4_handleLine_77 : decode cX4_handleLine 77 = .ok (.aload_n 0, 1) := by decide +kernel
theorem dX4_handleLine_78 : decode cX4_handleLine 78 = .ok (.getfield 25, 3) := by decide +kernel
theorem dX4_handleLine_81 : decode cX4_handleLine 81 = .ok (.getfield 295, 3) := by decide +kernel
theorem dX4_handleLine_84 : decode cX4_handleLine 84 = .ok (.iload 6, 2) := by decide +kernel
theorem dX4_handleLine_86 : decode cX4_handleLine 86 = .ok (.iconst 0, 1) := by decide +kernel
theorem dX4_handleLine_87 : decode cX4_handleLine 87 = .ok (.invokestatic 148, 3) := by decide +kernel
theorem dX4_handleLine_90 : decode cX4_handleLine 90 = .ok (.iinc 5 1, 3) := by decide +kernel
theorem dX4_handleLine_93 : decode cX4_handleLine 93 = .ok (.goto (-90), 3) := by decide +kernel
theorem dX4_handleLine_96 : decode cX4_handleLine 96 = .ok (.return_, 1) := by decide +kernel
set_option maxRecDepth 20000 in
theorem ggX4_readEvent_X6_sign : GoodIn wsX4_readEvent wsX6_sign := goodIn_r _ [18, 19, 20, 21, 22, 231, 232, 233, 234, 235] (by decide +kernel) (by decide +kernel)
set_option maxRecDepth 20000 in
theorem gX4_readEvent_X6_sign : GoodIn wsX4_readEvent (wsV RX4 89 RX6 yX6_sign wsX6_sign) := goodIn_app (goodIn_of _ (by decide +kernel)) ggX4_readEvent_X6_sign
set_option maxRecDepth 20000 in
theorem ggX4_readEvent_X4_fail : GoodIn wsX4_readEvent wsX4_fail := goodIn_ca (goodIn_r _ [27, 28, 1, 29, 30, 31, 32, 17, 33, 19, 34, 197, 198, 199, 200, 201, 202, 203, 204, 205, 206, 207, 231, 232, 233, 234, 235] (by decide +kernel) (by decide +kernel)) (goodIn_sub (fun _ h => List.mem_cons_of_mem _ (List.mem_append_right _ h)) (by decide +kernel))
set_option maxRecDepth 20000 in
theorem gX4_readEvent_X4_fail : GoodIn wsX4_readEvent (wsV RX4 99 RX4 yX4_fail wsX4_fail) := goodIn_app (goodIn_of _ (by decide +kernel)) ggX4_readEvent_X4_fail
set_option maxRecDepth 20000 in
theorem ggX4_readEvent_X4_startEvents : GoodIn wsX4_readEvent wsX4_startEvents := goodIn_ca (goodIn_r _ [38, 39, 7, 40, 41, 42, 43, 44, 45, 46, 47, 48, 49, 50, 51, 52, 53, 54, 55, 56, 57, 58, 59, 60, 61, 62, 63, 64, 65, 66, 67, 68, 69, 70, 71, 72, 73, 74, 75, 76, 77, 78, 79, 80, 81, 82, 83, 84, 85, 86, 87, 88, 89, 90, 91, 92, 93, 197, 198, 199, 200, 201, 202, 203, 204, 205, 206, 207, 208, 209, 210, 211, 212, 213, 214, 215, 216, 217, 218, 219, 220, 221, 222, 223, 224, 225, 226, 227, 228, 229, 230, 236, 237, 238, 239, 240, 241, 242, 243, 244, 245, 246, 247, 248] (by decide +kernel) (by decide +kernel)) (goodIn_sub (fun _ h => List.mem_cons_of_mem _ (List.mem_append_right _ h)) (by decide +kernel))
set_option maxRecDepth 20000 in
theorem gX4_readEvent_X4_startEvents : GoodIn wsX4_readEvent (wsV RX4 307 RX4 yX4_startEvents wsX4_startEvents) := goodIn_app (goodIn_of _ (by decide +kernel)) ggX4_readEvent_X4_startEvents
set_option maxRecDepth 20000 in
theorem ggX4_readEvent_X8_nightLength : GoodIn wsX4_readEvent wsX8_nightLength := goodIn_r _ [97, 47, 98, 81, 208, 209, 210, 211, 212, 213, 214, 215, 216, 217, 218, 219, 220, 221, 236, 237, 238, 239, 240, 241, 242, 243, 244, 245, 246, 247, 248] (by decide +kernel) (by decide +kernel)
set_option maxRecDepth 20000 in
theorem gX4_readEvent_X8_nightLength : GoodIn wsX4_readEvent (wsV RX4 313 RX8 yX8_nightLength wsX8_nightLength) := goodIn_app (goodIn_of _ (by decide +kernel)) ggX4_readEvent_X8_nightLength
set_option maxRecDepth 20000 in
theorem ggX4_readEvent_X4_takeMinutes : GoodIn wsX4_readEvent wsX4_takeMinutes := goodIn_ca (goodIn_r _ [102, 103, 1, 23, 24, 25, 26, 27, 28, 29, 30, 31, 32, 17, 33, 19, 34, 104, 105, 106, 107, 20, 197, 198, 199, 200, 201, 202, 203, 204, 205, 206, 207, 231, 232, 233, 234, 235] (by decide +kernel) (by decide +kernel)) (goodIn_sub (fun _ h => List.mem_cons_of_mem _ (List.mem_append_right _ h)) (by decide +kernel))
set_option maxRecDepth 20000 in
theorem gX4_readEvent_X4_takeMinutes : GoodIn wsX4_readEvent (wsV RX4 319 RX4 yX4_takeMinutes wsX4_takeMinutes) := goodIn_app (goodIn_of _ (by decide +kernel)) ggX4_readEvent_X4_takeMinutes
set_option maxRecDepth 20000 in
theorem ggX4_readEvent_X6_goOn : GoodIn wsX4_readEvent wsX6_goOn := goodIn_r _ [107, 19, 20, 231, 232, 233, 234, 235] (by decide +kernel) (by decide +kernel)
set_option maxRecDepth 20000 in
theorem gX4_readEvent_X6_goOn : GoodIn wsX4_readEvent (wsV RX4 108 RX6 yX6_goOn wsX6_goOn) := goodIn_app (goodIn_of _ (by decide +kernel)) ggX4_readEvent_X6_goOn
set_option maxRecDepth 20000 in
theorem ggX4_readEvent_X4_number : GoodIn wsX4_readEvent wsX4_number := goodIn_ca (goodIn_r _ [111, 1, 112, 14, 15, 16, 17, 18, 19, 20, 21, 22, 23, 24, 25, 26, 27, 28, 29, 30, 31, 32, 33, 34, 113, 114, 115, 116, 117, 86, 87, 88, 197, 198, 199, 200, 201, 202, 203, 204, 205, 206, 207, 231, 232, 233, 234, 235] (by decide +kernel) (by decide +kernel)) (goodIn_sub (fun _ h => List.mem_cons_of_mem _ (List.mem_append_right _ h)) (by decide +kernel))
set_option maxRecDepth 20000 in
theorem gX4_readEvent_X4_number : GoodIn wsX4_readEvent (wsV RX4 105 RX4 yX4_number wsX4_number) := goodIn_app (goodIn_of _ (by decide +kernel)) ggX4_readEvent_X4_number
set_option maxRecDepth 20000 in
theorem ggX4_readEvent_Jx29ce0_ordinal_8abf5 : GoodIn wsX4_readEvent wsJx29ce0_ordinal_8abf5 := goodIn_r _ [123, 124] (by decide +kernel) (by decide +kernel)
set_option maxRecDepth 20000 in
theorem gX4_readEvent_Jx29ce0_ordinal_8abf5_u175X5 : GoodIn wsX4_readEvent (va_wsU RX4 175 RX5 "java/lang/Enum" ⟨"MoonlitFloor$Sign", "ordinal", "()I"⟩ yJx29ce0_ordinal_8abf5 wsJx29ce0_ordinal_8abf5) := goodIn_app (goodIn_of _ (by decide +kernel)) ggX4_readEvent_Jx29ce0_ordinal_8abf5
set_option maxRecDepth 20000 in
theorem ggX4_readEvent_X4_readSpill : GoodIn wsX4_readEvent wsX4_readSpill := goodIn_ca (goodIn_r _ [128, 7, 1, 129, 130, 131, 132, 43, 133, 47, 98, 48, 108, 109, 110, 26, 111, 112, 14, 15, 16, 17, 18, 19, 20, 21, 22, 23, 24, 25, 27, 28, 29, 30, 31, 32, 33, 34, 113, 114, 115, 116, 117, 86, 87, 88, 134, 135, 136, 137, 138, 93, 104, 105, 106, 107, 139, 140, 141, 142, 143, 144, 197, 198, 199, 200, 201, 202, 203, 204, 205, 206, 207, 208, 209, 210, 211, 212, 213, 214, 215, 216, 217, 218, 219, 220, 221, 236, 237, 238, 239, 240, 241, 242, 243, 244, 245, 246, 247, 248, 231, 232, 233, 234, 235] (by decide +kernel) (by decide +kernel)) (goodIn_sub (fun _ h => List.mem_cons_of_mem _ (List.mem_append_right _ h)) (by decide +kernel))
set_option maxRecDepth 20000 in
theorem gX4_readEvent_X4_readSpill : GoodIn wsX4_readEvent (wsV RX4 326 RX4 yX4_readSpill wsX4_readSpill) := goodIn_app (goodIn_of _ (by decide +kernel)) ggX4_readEvent_X4_readSpill
set_option maxRecDepth 20000 in
theorem ggX4_readEvent_X4_takeNumber : GoodIn wsX4_readEvent wsX4_takeNumber := goodIn_ca (goodIn_r _ [142, 1, 108, 109, 110, 26, 111, 112, 14, 15, 16, 17, 18, 19, 20, 21, 22, 23, 24, 25, 27, 28, 29, 30, 31, 32, 33, 34, 113, 114, 115, 116, 117, 86, 87, 88, 104, 105, 106, 107, 197, 198, 199, 200, 201, 202, 203, 204, 205, 206, 207, 231, 232, 233, 234, 235] (by decide +kernel) (by decide +kernel)) (goodIn_sub (fun _ h => List.mem_cons_of_mem _ (List.mem_append_right _ h)) (by decide +kernel))
set_option maxRecDepth 20000 in
theorem gX4_readEvent_X4_takeNumber : GoodIn wsX4_readEvent (wsV RX4 114 RX4 yX4_takeNumber wsX4_takeNumber) := goodIn_app (goodIn_of _ (by decide +kernel)) ggX4_readEvent_X4_takeNumber
set_option maxRecDepth 20000 in
theorem ggX4_readEvent_X4_readCurtains : GoodIn wsX4_readEvent wsX4_readCurtains := goodIn_ca (goodIn_r _ [148, 1, 112, 7, 149, 150, 151, 14, 15, 16, 17, 18, 19, 20, 21, 22, 108, 109, 110, 26, 111, 23, 24, 25, 27, 28, 29, 30, 31, 32, 33, 34, 113, 114, 115, 116, 117, 86, 87, 88, 143, 144, 104, 105, 106, 107, 197, 198, 199, 200, 201, 202, 203, 204, 205, 206, 207, 208, 209, 210, 211, 212, 213, 214, 215, 216, 217, 218, 219, 220, 221, 236, 237, 238, 239, 240, 241, 242, 243, 244, 245, 246, 247, 248, 231, 232, 233, 234, 235] (by decide +kernel) (by decide +kernel)) (goodIn_sub (fun _ h => List.mem_cons_of_mem _ (List.mem_append_right _ h)) (by decide +kernel))
set_option maxRecDepth 20000 in
theorem gX4_readEvent_X4_readCurtains : GoodIn wsX4_readEvent (wsV RX4 211 RX4 yX4_readCurtains wsX4_readCurtains) := goodIn_app (goodIn_of _ (by decide +kernel)) ggX4_readEvent_X4_readCurtains
set_option maxRecDepth 20000 in
theorem ggX4_readEvent_X4_readCarry : GoodIn wsX4_readEvent wsX4_readCarry := goodIn_ca (goodIn_r _ [155, 7, 156, 1, 130, 131, 132, 43, 133, 47, 98, 48, 108, 109, 110, 26, 111, 112, 14, 15, 16, 17, 18, 19, 20, 21, 22, 23, 24, 25, 27, 28, 29, 30, 31, 32, 33, 34, 113, 114, 115, 116, 117, 86, 87, 88, 104, 105, 106, 107, 197, 198, 199, 200, 201, 202, 203, 204, 205, 206, 207, 208, 209, 210, 211, 212, 213, 214, 215, 216, 217, 218, 219, 220, 221, 236, 237, 238, 239, 240, 241, 242, 243, 244, 245, 246, 247, 248, 231, 232, 233, 234, 235] (by decide +kernel) (by decide +kernel)) (goodIn_sub (fun _ h => List.mem_cons_of_mem _ (List.mem_append_right _ h)) (by decide +kernel))
set_option maxRecDepth 20000 in
theorem gX4_readEvent_X4_readCarry : GoodIn wsX4_readEvent (wsV RX4 329 RX4 yX4_readCarry wsX4_readCarry) := goodIn_app (goodIn_of _ (by decide +kernel)) ggX4_readEvent_X4_readCarry
set_option maxRecDepth 20000 in
theorem ggX4_readEvent_X4_readRepeat : GoodIn wsX4_readEvent wsX4_readRepeat := goodIn_ca (goodIn_r _ [160, 1, 161, 162, 4, 163, 5, 139, 140, 141, 26, 142, 108, 109, 110, 111, 112, 14, 15, 16, 17, 18, 19, 20, 21, 22, 23, 24, 25, 27, 28, 29, 30, 31, 32, 33, 34, 113, 114, 115, 116, 117, 86, 87, 88, 104, 105, 106, 107, 164, 165, 166, 167, 143, 144, 197, 198, 199, 200, 201, 202, 203, 204, 205, 206, 207, 231, 232, 233, 234, 235] (by decide +kernel) (by decide +kernel)) (goodIn_sub (fun _ h => List.mem_cons_of_mem _ (List.mem_append_right _ h)) (by decide +kernel))
set_option maxRecDepth 20000 in
theorem gX4_readEvent_X4_readRepeat : GoodIn wsX4_readEvent (wsV RX4 332 RX4 yX4_readRepeat wsX4_readRepeat) := goodIn_app (goodIn_of _ (by decide +kernel)) ggX4_readEvent_X4_readRepeat
set_option maxRecDepth 20000 in
theorem ggX4_readEvent_X4_readTiles : GoodIn wsX4_readEvent wsX4_readTiles := goodIn_ca (goodIn_r _ [171, 28, 1, 112, 172, 173, 14, 15, 16, 17, 18, 19, 20, 21, 22, 174, 175, 176, 26, 177, 7, 149, 178, 150, 179, 180, 104, 105, 106, 107, 130, 131, 132, 43, 133, 47, 98, 48, 108, 109, 110, 111, 23, 24, 25, 27, 29, 30, 31, 32, 33, 34, 113, 114, 115, 116, 117, 86, 87, 88, 181, 182, 183, 184, 185, 186, 187, 188, 129, 189, 190, 191, 192, 193, 194, 195, 196, 143, 144, 197, 198, 199, 200, 201, 202, 203, 204, 205, 206, 207, 231, 232, 233, 234, 235, 208, 209, 210, 211, 212, 213, 214, 215, 216, 217, 218, 219, 220, 221, 236, 237, 238, 239, 240, 241, 242, 243, 244, 245, 246, 247, 248] (by decide +kernel) (by decide +kernel)) (goodIn_sub (fun _ h => List.mem_cons_of_mem _ (List.mem_append_right _ h)) (by decide +kernel))
set_option maxRecDepth 20000 in
theorem gX4_readEvent_X4_readTiles : GoodIn wsX4_readEvent (wsV RX4 214 RX4 yX4_readTiles wsX4_readTiles) := goodIn_app (goodIn_of _ (by decide +kernel)) ggX4_readEvent_X4_readTiles
theorem dX4_readEvent_0 : decode cX4_readEvent 0 = .ok (.aload_n 0, 1) := by decide +kernel
theorem dX4_readEvent_1 : decode cX4_readEvent 1 = .ok (.getfield 12, 3) := by decide +kernel
theorem dX4_readEvent_4 : decode cX4_readEvent 4 = .ok (.invokevirtual 89, 3) := by decide +kernel
theorem dX4_readEvent_7 : decode cX4_readEvent 7 = .ok (.astore_n 1, 1) := by decide +kernel
theorem dX4_readEvent_8 : decode cX4_readEvent 8 = .ok (.aload_n 1, 1) := by decide +kernel
theorem dX4_readEvent_9 : decode cX4_readEvent 9 = .ok (.getfield 158, 3) := by decide +kernel
theorem dX4_readEvent_12 : decode cX4_readEvent 12 = .ok (.ifCond .ne 10, 3) := by decide +kernel
theorem dX4_readEvent_15 : decode cX4_readEvent 15 = .ok (.aload_n 0, 1) := by decide +kernel
theorem dX4_readEvent_16 : decode cX4_readEvent 16 = .ok (.iconst 1, 1) := by decide +kernel
theorem dX4_readEvent_17 : decode cX4_readEvent 17 = .ok (.invokevirtual 99, 3) := by decide +kernel
theorem dX4_readEvent_20 : decode cX4_readEvent 20 = .ok (.iconst 0, 1) := by decide +kernel
theorem dX4_readEvent_21 : decode cX4_readEvent 21 = .ok (.ireturn, 1) := by decide +kernel
theorem dX4_readEvent_22 : decode cX4_readEvent 22 = .ok (.aload_n 1, 1) := by decide +kernel
theorem dX4_readEvent_23 : decode cX4_readEvent 23 = .ok (.getstatic 304, 3) := by decide +kernel
theorem dX4_readEvent_26 : decode cX4_readEvent 26 = .ok (.if_acmp .ne 18, 3) := by decide +kernel
theorem dX4_readEvent_29 : decode cX4_readEvent 29 = .ok (.aload_n 0, 1) := by decide +kernel
theorem dX4_readEvent_30 : decode cX4_readEvent 30 = .ok (.getfield 77, 3) := by decide +kernel
theorem dX4_readEvent_33 : decode cX4_readEvent 33 = .ok (.iconst 3, 1) := by decide +kernel
theorem dX4_readEvent_34 : decode cX4_readEvent 34 = .ok (.if_icmp .lt 10, 3) := by decide +kernel
theorem dX4_readEvent_37 : decode cX4_readEvent 37 = .ok (.aload_n 0, 1) := by decide +kernel
theorem dX4_readEvent_38 : decode cX4_readEvent 38 = .ok (.iconst 4, 1) := by decide +kernel
theorem dX4_readEvent_39 : decode cX4_readEvent 39 = .ok (.invokevirtual 99, 3) := by decide +kernel
theorem dX4_readEvent_42 : decode cX4_readEvent 42 = .ok (.iconst 0, 1) := by decide +kernel
theorem dX4_readEvent_43 : decode cX4_readEvent 43 = .ok (.ireturn, 1) := by decide +kernel
theorem dX4_readEvent_44 : decode cX4_readEvent 44 = .ok (.aload_n 0, 1) := by decide +kernel
theorem dX4_readEvent_45 : decode cX4_readEvent 45 = .ok (.invokevirtual 307, 3) := by decide +kernel
theorem dX4_readEvent_48 : decode cX4_readEvent 48 = .ok (.aload_n 0, 1) := by decide +kernel
theorem dX4_readEvent_49 : decode cX4_readEvent 49 = .ok (.iconst 0, 1) := by decide +kernel
theorem dX4_readEvent_50 : decode cX4_readEvent 50 = .ok (.putfield 51, 3) := by decide +kernel
theorem dX4_readEvent_53 : decode cX4_readEvent 53 = .ok (.aload_n 1, 1) := by decide +kernel
theorem dX4_readEvent_54 : decode cX4_readEvent 54 = .ok (.getstatic 310, 3) := by decide +kernel
theorem dX4_readEvent_57 : decode cX4_readEvent 57 = .ok (.if_acmp .ne 23, 3) := by decide +kernel
theorem dX4_readEvent_60 : decode cX4_readEvent 60 = .ok (.aload_n 0, 1) := by decide +kernel
theorem dX4_readEvent_61 : decode cX4_readEvent 61 = .ok (.aload_n 0, 1) := by decide +kernel
theorem dX4_readEvent_62 : decode cX4_readEvent 62 = .ok (.getfield 25, 3) := by decide +kernel
theorem dX4_readEvent_65 : decode cX4_readEvent 65 = .ok (.invokevirtual 313, 3) := by decide +kernel
theorem dX4_readEvent_68 : decode cX4_readEvent 68 = .ok (.aload_n 0, 1) := by decide +kernel
theorem dX4_readEvent_69 : decode cX4_readEvent 69 = .ok (.getfield 25, 3) := by decide +kernel
theorem dX4_readEvent_72 : decode cX4_readEvent 72 = .ok (.getfield 316, 3) := by decide +kernel
theorem dX4_readEvent_75 : decode cX4_readEvent 75 = .ok (.isub, 1) := by decide +kernel
theorem dX4_readEvent_76 : decode cX4_readEvent 76 = .ok (.invokevirtual 319, 3) := by decide +kernel
theorem dX4_readEvent_79 : decode cX4_readEvent 79 = .ok (.ireturn, 1) := by decide +kernel
theorem dX4_readEvent_80 : decode cX4_readEvent 80 = .ok (.aload_n 0, 1) := by decide +kernel
theorem dX4_readEvent_81 : decode cX4_readEvent 81 = .ok (.getfield 12, 3) := by decide +kernel
theorem dX4_readEvent_84 : decode cX4_readEvent 84 = .ok (.invokevirtual 108, 3) := by decide +kernel
theorem dX4_readEvent_87 : decode cX4_readEvent 87 = .ok (.aload_n 1, 1) := by decide +kernel
theorem dX4_readEvent_88 : decode cX4_readEvent 88 = .ok (.getstatic 323, 3) := by decide +kernel
theorem dX4_readEvent_91 : decode cX4_readEvent 91 = .ok (.if_acmp .ne 16, 3) := by decide +kernel
theorem dX4_readEvent_94 : decode cX4_readEvent 94 = .ok (.aload_n 0, 1) := by decide +kernel
theorem dX4_readEvent_95 : decode cX4_readEvent 95 = .ok (.aload_n 0, 1) := by decide +kernel
theorem dX4_readEvent_96 : decode cX4_readEvent 96 = .ok (.iconst 1, 1) := by decide +kernel
theorem dX4_readEvent_97 : decode cX4_readEvent 97 = .ok (.sipush 300, 3) := by decide +kernel
theorem dX4_readEvent_100 : decode cX4_readEvent 100 = .ok (.invokevirtual 105, 3) := by decide +kernel
theorem dX4_readEvent_103 : decode cX4_readEvent 103 = .ok (.invokevirtual 319, 3) := by decide +kernel
theorem dX4_readEvent_106 : decode cX4_readEvent 106 = .ok (.ireturn, 1) := by decide +kernel
theorem dX4_readEvent_107 : decode cX4_readEvent 107 = .ok (.getstatic 170, 3) := by decide +kernel
theorem dX4_readEvent_110 : decode cX4_readEvent 110 = .ok (.aload_n 1, 1) := by decide +kernel
theorem dX4_readEvent_111 : decode cX4_readEvent 111 = .ok (.invokevirtual 175, 3) := by decide +kernel
theorem dX4_readEvent_114 : decode cX4_readEvent 114 = .ok (.iaload, 1) := by decide +kernel
theorem dX4_readEvent_115 : decode cX4_readEvent 115 = .ok (.tableswitch 185 2 23 #[139, 185, 185, 185, 185, 185, 185, 185, 185, 185, 185, 185, 185, 185, 185, 185, 101, 108, 155, 163, 171, 178], 101) := by decide +kernel
theorem dX4_readEvent_216 : decode cX4_readEvent 216 = .ok (.aload_n 0, 1) := by decide +kernel
theorem dX4_readEvent_217 : decode cX4_readEvent 217 = .ok (.invokevirtual 326, 3) := by decide +kernel
theorem dX4_readEvent_220 : decode cX4_readEvent 220 = .ok (.goto 85, 3) := by decide +kernel
theorem dX4_readEvent_223 : decode cX4_readEvent 223 = .ok (.aload_n 0, 1) := by decide +kernel
theorem dX4_readEvent_224 : decode cX4_readEvent 224 = .ok (.getfield 25, 3) := by decide +kernel
theorem dX4_readEvent_227 : decode cX4_readEvent 227 = .ok (.getfield 224, 3) := by decide +kernel
theorem dX4_readEvent_230 : decode cX4_readEvent 230 = .ok (.aload_n 0, 1) := by decide +kernel
theorem dX4_readEvent_231 : decode cX4_readEvent 231 = .ok (.getfield 25, 3) := by decide +kernel
theorem dX4_readEvent_234 : decode cX4_readEvent 234 = .ok (.getfield 224, 3) := by decide +kernel
theorem dX4_readEvent_237 : decode cX4_readEvent 237 = .ok (.getfield 233, 3) := by decide +kernel
theorem dX4_readEvent_240 : decode cX4_readEvent 240 = .ok (.ifCond .ne 7, 3) := by decide +kernel
theorem dX4_readEvent_243 : decode cX4_readEvent 243 = .ok (.iconst 1, 1) := by decide +kernel
theorem dX4_readEvent_244 : decode cX4_readEvent 244 = .ok (.goto 4, 3) := by decide +kernel
theorem dX4_readEvent_247 : decode cX4_readEvent 247 = .ok (.iconst 0, 1) := by decide +kernel
theorem dX4_readEvent_248 : decode cX4_readEvent 248 = .ok (.putfield 233, 3) := by decide +kernel
theorem dX4_readEvent_251 : decode cX4_readEvent 251 = .ok (.goto 54, 3) := by decide +kernel
theorem dX4_readEvent_254 : decode cX4_readEvent 254 = .ok (.aload_n 0, 1) := by decide +kernel
theorem dX4_readEvent_255 : decode cX4_readEvent 255 = .ok (.getfield 25, 3) := by decide +kernel
theorem dX4_readEvent_258 : decode cX4_readEvent 258 = .ok (.aload_n 0, 1) := by decide +kernel
theorem dX4_readEvent_259 : decode cX4_readEvent 259 = .ok (.iconst 1, 1) := by decide +kernel
theorem dX4_readEvent_260 : decode cX4_readEvent 260 = .ok (.iconst 5, 1) := by decide +kernel
theorem dX4_readEvent_261 : decode cX4_readEvent 261 = .ok (.invokevirtual 114, 3) := by decide +kernel
theorem dX4_readEvent_264 : decode cX4_readEvent 264 = .ok (.putfield 181, 3) := by decide +kernel
theorem dX4_readEvent_267 : decode cX4_readEvent 267 = .ok (.goto 38, 3) := by decide +kernel
theorem dX4_readEvent_270 : decode cX4_readEvent 270 = .ok (.aload_n 0, 1) := by decide +kernel
theorem dX4_readEvent_271 : decode cX4_readEvent 271 = .ok (.iconst 0, 1) := by decide +kernel
theorem dX4_readEvent_272 : decode cX4_readEvent 272 = .ok (.invokevirtual 211, 3) := by decide +kernel
theorem dX4_readEvent_275 : decode cX4_readEvent 275 = .ok (.goto 30, 3) := by decide +kernel
theorem dX4_readEvent_278 : decode cX4_readEvent 278 = .ok (.aload_n 0, 1) := by decide +kernel
theorem dX4_readEvent_279 : decode cX4_readEvent 279 = .ok (.iconst 1, 1) := by decide +kernel
theorem dX4_readEvent_280 : decode cX4_readEvent 280 = .ok (.invokevirtual 211, 3) := by decide +kernel
theorem dX4_readEvent_283 : decode cX4_readEvent 283 = .ok (.goto 22, 3) := by decide +kernel
theorem dX4_readEvent_286 : decode cX4_readEvent 286 = .ok (.aload_n 0, 1) := by decide +kernel
theorem dX4_readEvent_287 : decode cX4_readEvent 287 = .ok (.invokevirtual 329, 3) := by decide +kernel
theorem dX4_readEvent_290 : decode cX4_readEvent 290 = .ok (.goto 15, 3) := by decide +kernel
theorem dX4_readEvent_293 : decode cX4_readEvent 293 = .ok (.aload_n 0, 1) := by decide +kernel
theorem dX4_readEvent_294 : decode cX4_readEvent 294 = .ok (.invokevirtual 332, 3) := by decide +kernel
theorem dX4_readEvent_297 : decode cX4_readEvent 297 = .ok (.goto 8, 3) := by decide +kernel
theorem dX4_readEvent_300 : decode cX4_readEvent 300 = .ok (.aload_n 0, 1) := by decide +kernel
theorem dX4_readEvent_301 : decode cX4_readEvent 301 = .ok (.aload_n 1, 1) := by decide +kernel
theorem dX4_readEvent_302 : decode cX4_readEvent 302 = .ok (.invokevirtual 214, 3) := by decide +kernel
theorem dX4_readEvent_305 : decode cX4_readEvent 305 = .ok (.iconst 0, 1) := by decide +kernel
theorem dX4_readEvent_306 : decode cX4_readEvent 306 = .ok (.ireturn, 1) := by decide +kernel
set_option maxRecDepth 20000 in
theorem ggX4_startEvents_X8_relocate : GoodIn wsX4_startEvents wsX8_relocate := goodIn_ca (goodIn_r _ [7, 8, 9, 10, 11, 12, 13, 14, 15, 6, 16, 17, 18, 19, 20, 21, 22, 23, 24, 25, 26, 27, 28, 29, 30, 31, 32, 33, 34, 35, 36, 37, 38, 39, 40, 41, 42, 43, 44, 45, 46, 47, 48, 49, 50, 51, 52, 53, 54, 55, 56, 68, 69, 70, 71, 72, 73, 74, 75, 76, 77, 78, 79, 80, 81, 82, 83, 84, 85, 86, 87, 88, 89, 90, 91, 92, 93, 94, 95, 96, 97, 98, 99, 100, 101, 102, 103] (by decide +kernel) (by decide +kernel)) (goodIn_sub (fun _ h => List.mem_cons_of_mem _ (List.mem_append_right _ h)) (by decide +kernel))
set_option maxRecDepth 20000 in
theorem gX4_startEvents_X8_relocate : GoodIn wsX4_startEvents (wsV RX4 155 RX8 yX8_relocate wsX8_relocate) := goodIn_app (goodIn_of _ (by decide +kernel)) ggX4_startEvents_X8_relocate
theorem dX4_startEvents_0 : decode cX4_startEvents 0 = .ok (.aload_n 0, 1) := by decide +kernel
theorem dX4_startEvents_1 : decode cX4_startEvents 1 = .ok (.getfield 83, 3) := by decide +kernel
theorem dX4_startEvents_4 : decode cX4_startEvents 4 = .ok (.ifCond .ne 15, 3) := by decide +kernel
theorem dX4_startEvents_7 : decode cX4_startEvents 7 = .ok (.aload_n 0, 1) := by decide +kernel
theorem dX4_startEvents_8 : decode cX4_startEvents 8 = .ok (.iconst 1, 1) := by decide +kernel
theorem dX4_startEvents_9 : decode cX4_startEvents 9 = .ok (.putfield 83, 3) := by decide +kernel
theorem dX4_startEvents_12 : decode cX4_startEvents 12 = .ok (.aload_n 0, 1) := by decide +kernel
theorem dX4_startEvents_13 : decode cX4_startEvents 13 = .ok (.getfield 25, 3) := by decide +kernel
theorem dX4_startEvents_16 : decode cX4_startEvents 16 = .ok (.invokevirtual 155, 3) := by decide +kernel
theorem dX4_startEvents_19 : decode cX4_startEvents 19 = .ok (.return_, 1) := by decide +kernel
set_option maxRecDepth 20000 in
theorem ggX4_readSpill_X8_tileCount : GoodIn wsX4_readSpill wsX8_tileCount := goodIn_r _ [8, 9, 10, 11, 73, 74, 75, 76, 77, 78, 79, 80, 81, 82, 83, 84, 85, 86, 87, 88, 89, 90, 91, 92, 93, 94, 95, 96, 97, 98, 99] (by decide +kernel) (by decide +kernel)
set_option maxRecDepth 20000 in
theorem gX4_readSpill_X8_tileCount : GoodIn wsX4_readSpill (wsV RX4 236 RX8 yX8_tileCount wsX8_tileCount) := goodIn_app (goodIn_of _ (by decide +kernel)) ggX4_readSpill_X8_tileCount
set_option maxRecDepth 20000 in
theorem ggX4_readSpill_X4_number : GoodIn wsX4_readSpill wsX4_number := goodIn_ca (goodIn_r _ [16, 2, 17, 18, 19, 20, 21, 22, 23, 24, 25, 26, 27, 28, 29, 15, 30, 31, 32, 33, 34, 35, 36, 37, 38, 39, 40, 41, 42, 43, 44, 45, 62, 63, 64, 65, 66, 67, 68, 69, 70, 71, 72, 100, 101, 102, 103, 104] (by decide +kernel) (by decide +kernel)) (goodIn_sub (fun _ h => List.mem_cons_of_mem _ (List.mem_append_right _ h)) (by decide +kernel))
set_option maxRecDepth 20000 in
theorem gX4_readSpill_X4_number : GoodIn wsX4_readSpill (wsV RX4 105 RX4 yX4_number wsX4_number) := goodIn_app (goodIn_of _ (by decide +kernel)) ggX4_readSpill_X4_number
set_option maxRecDepth 20000 in
theorem ggX4_readSpill_X8_hasRoomForBowl : GoodIn wsX4_readSpill wsX8_hasRoomForBowl := goodIn_ca (goodIn_r _ [49, 50, 51, 43, 44, 45, 73, 74, 75, 76, 77, 78, 79, 80, 81, 82, 83, 84, 85, 86] (by decide +kernel) (by decide +kernel)) (goodIn_sub (fun _ h => List.mem_cons_of_mem _ (List.mem_append_right _ h)) (by decide +kernel))
set_option maxRecDepth 20000 in
theorem gX4_readSpill_X8_hasRoomForBowl : GoodIn wsX4_readSpill (wsV RX4 335 RX8 yX8_hasRoomForBowl wsX8_hasRoomForBowl) := goodIn_app (goodIn_of _ (by decide +kernel)) ggX4_readSpill_X8_hasRoomForBowl
set_option maxRecDepth 20000 in
theorem ggX4_readSpill_X4_fail : GoodIn wsX4_readSpill wsX4_fail := goodIn_ca (goodIn_r _ [30, 31, 2, 32, 33, 34, 35, 21, 36, 23, 37, 62, 63, 64, 65, 66, 67, 68, 69, 70, 71, 72, 100, 101, 102, 103, 104] (by decide +kernel) (by decide +kernel)) (goodIn_sub (fun _ h => List.mem_cons_of_mem _ (List.mem_append_right _ h)) (by decide +kernel))
set_option maxRecDepth 20000 in
theorem gX4_readSpill_X4_fail : GoodIn wsX4_readSpill (wsV RX4 99 RX4 yX4_fail wsX4_fail) := goodIn_app (goodIn_of _ (by decide +kernel)) ggX4_readSpill_X4_fail
set_option maxRecDepth 20000 in
theorem ggX4_readSpill_X6_goOn : GoodIn wsX4_readSpill wsX6_goOn := goodIn_r _ [55, 23, 24, 100, 101, 102, 103, 104] (by decide +kernel) (by decide +kernel)
set_option maxRecDepth 20000 in
theorem gX4_readSpill_X6_goOn : GoodIn wsX4_readSpill (wsV RX4 108 RX6 yX6_goOn wsX6_goOn) := goodIn_app (goodIn_of _ (by decide +kernel)) ggX4_readSpill_X6_goOn
set_option maxRecDepth 20000 in
theorem ggX4_readSpill_X4_takeNumber : GoodIn wsX4_readSpill wsX4_takeNumber := goodIn_ca (goodIn_r _ [59, 2, 12, 13, 14, 15, 16, 17, 18, 19, 20, 21, 22, 23, 24, 25, 26, 27, 28, 29, 30, 31, 32, 33, 34, 35, 36, 37, 38, 39, 40, 41, 42, 43, 44, 45, 52, 53, 54, 55, 62, 63, 64, 65, 66, 67, 68, 69, 70, 71, 72, 100, 101, 102, 103, 104] (by decide +kernel) (by decide +kernel)) (goodIn_sub (fun _ h => List.mem_cons_of_mem _ (List.mem_append_right _ h)) (by decide +kernel))
set_option maxRecDepth 20000 in
theorem gX4_readSpill_X4_takeNumber : GoodIn wsX4_readSpill (wsV RX4 114 RX4 yX4_takeNumber wsX4_takeNumber) := goodIn_app (goodIn_of _ (by decide +kernel)) ggX4_readSpill_X4_takeNumber
set_option maxRecDepth 20000 in
theorem ggX4_readSpill_X9_put : GoodIn wsX4_readSpill wsX9_put := goodIn_ca (goodIn_r _ [61] (by decide +kernel) (by decide +kernel)) (goodIn_sub (fun _ h => List.mem_cons_of_mem _ (List.mem_append_right _ h)) (by decide +kernel))
set_option maxRecDepth 20000 in
theorem gX4_readSpill_X9_put_n148 : GoodIn wsX4_readSpill (wsX9_put) := ggX4_readSpill_X9_put
theorem dX4_readSpill_0 : decode cX4_readSpill 0 = .ok (.aload_n 0, 1) := by decide +kernel
theorem dX4_readSpill_1 : decode cX4_readSpill 1 = .ok (.iconst 0, 1) := by decide +kernel
theorem dX4_readSpill_2 : decode cX4_readSpill 2 = .ok (.aload_n 0, 1) := by decide +kernel
theorem dX4_readSpill_3 : decode cX4_readSpill 3 = .ok (.getfield 25, 3) := by decide +kernel
theorem dX4_readSpill_6 : decode cX4_readSpill 6 = .ok (.invokevirtual 236, 3) := by decide +kernel
theorem dX4_readSpill_9 : decode cX4_readSpill 9 = .ok (.iconst 1, 1) := by decide +kernel
theorem dX4_readSpill_10 : decode cX4_readSpill 10 = .ok (.isub, 1) := by decide +kernel
theorem dX4_readSpill_11 : decode cX4_readSpill 11 = .ok (.invokevirtual 105, 3) := by decide +kernel
theorem dX4_readSpill_14 : decode cX4_readSpill 14 = .ok (.istore_n 1, 1) := by decide +kernel
theorem dX4_readSpill_15 : decode cX4_readSpill 15 = .ok (.iload_n 1, 1) := by decide +kernel
theorem dX4_readSpill_16 : decode cX4_readSpill 16 = .ok (.iconst (-1), 1) := by decide +kernel
theorem dX4_readSpill_17 : decode cX4_readSpill 17 = .ok (.if_icmp .ne 4, 3) := by decide +kernel
theorem dX4_readSpill_20 : decode cX4_readSpill 20 = .ok (.return_, 1) := by decide +kernel
theorem dX4_readSpill_21 : decode cX4_readSpill 21 = .ok (.aload_n 0, 1) := by decide +kernel
theorem dX4_readSpill_22 : decode cX4_readSpill 22 = .ok (.getfield 25, 3) := by decide +kernel
theorem dX4_readSpill_25 : decode cX4_readSpill 25 = .ok (.iload_n 1, 1) := by decide +kernel
theorem dX4_readSpill_26 : decode cX4_readSpill 26 = .ok (.invokevirtual 335, 3) := by decide +kernel
theorem dX4_readSpill_29 : decode cX4_readSpill 29 = .ok (.ifCond .ne 9, 3) := by decide +kernel
theorem dX4_readSpill_32 : decode cX4_readSpill 32 = .ok (.aload_n 0, 1) := by decide +kernel
theorem dX4_readSpill_33 : decode cX4_readSpill 33 = .ok (.iconst 3, 1) := by decide +kernel
theorem dX4_readSpill_34 : decode cX4_readSpill 34 = .ok (.invokevirtual 99, 3) := by decide +kernel
theorem dX4_readSpill_37 : decode cX4_readSpill 37 = .ok (.return_, 1) := by decide +kernel
theorem dX4_readSpill_38 : decode cX4_readSpill 38 = .ok (.aload_n 0, 1) := by decide +kernel
theorem dX4_readSpill_39 : decode cX4_readSpill 39 = .ok (.getfield 12, 3) := by decide +kernel
theorem dX4_readSpill_42 : decode cX4_readSpill 42 = .ok (.invokevirtual 108, 3) := by decide +kernel
theorem dX4_readSpill_45 : decode cX4_readSpill 45 = .ok (.aload_n 0, 1) := by decide +kernel
theorem dX4_readSpill_46 : decode cX4_readSpill 46 = .ok (.iconst 1, 1) := by decide +kernel
theorem dX4_readSpill_47 : decode cX4_readSpill 47 = .ok (.bipush 99, 2) := by decide +kernel
theorem dX4_readSpill_49 : decode cX4_readSpill 49 = .ok (.invokevirtual 114, 3) := by decide +kernel
theorem dX4_readSpill_52 : decode cX4_readSpill 52 = .ok (.istore_n 2, 1) := by decide +kernel
theorem dX4_readSpill_53 : decode cX4_readSpill 53 = .ok (.iload_n 2, 1) := by decide +kernel
theorem dX4_readSpill_54 : decode cX4_readSpill 54 = .ok (.iconst (-1), 1) := by decide +kernel
theorem dX4_readSpill_55 : decode cX4_readSpill 55 = .ok (.if_icmp .eq 15, 3) := by decide +kernel
theorem dX4_readSpill_58 : decode cX4_readSpill 58 = .ok (.aload_n 0, 1) := by decide +kernel
theorem dX4_readSpill_59 : decode cX4_readSpill 59 = .ok (.getfield 25, 3) := by decide +kernel
theorem dX4_readSpill_62 : decode cX4_readSpill 62 = .ok (.getfield 295, 3) := by decide +kernel
theorem dX4_readSpill_65 : decode cX4_readSpill 65 = .ok (.iload_n 1, 1) := by decide +kernel
theorem dX4_readSpill_66 : decode cX4_readSpill 66 = .ok (.iload_n 2, 1) := by decide +kernel
theorem dX4_readSpill_67 : decode cX4_readSpill 67 = .ok (.invokestatic 148, 3) := by decide +kernel
theorem dX4_readSpill_70 : decode cX4_readSpill 70 = .ok (.return_, 1) := by decide +kernel
set_option maxRecDepth 20000 in
theorem ggX4_readCarry_X8_tileCount : GoodIn wsX4_readCarry wsX8_tileCount := goodIn_r _ [8, 9, 10, 11, 61, 62, 63, 64, 65, 66, 67, 68, 69, 70, 71, 72, 73, 74, 75, 76, 77, 78, 79, 80, 81, 82, 83, 84, 85, 86, 87] (by decide +kernel) (by decide +kernel)
set_option maxRecDepth 20000 in
theorem gX4_readCarry_X8_tileCount : GoodIn wsX4_readCarry (wsV RX4 236 RX8 yX8_tileCount wsX8_tileCount) := goodIn_app (goodIn_of _ (by decide +kernel)) ggX4_readCarry_X8_tileCount
set_option maxRecDepth 20000 in
theorem ggX4_readCarry_X4_number : GoodIn wsX4_readCarry wsX4_number := goodIn_ca (goodIn_r _ [16, 3, 17, 18, 19, 20, 21, 22, 23, 24, 25, 26, 27, 28, 29, 15, 30, 31, 32, 33, 34, 35, 36, 37, 38, 39, 40, 41, 42, 43, 44, 45, 50, 51, 52, 53, 54, 55, 56, 57, 58, 59, 60, 88, 89, 90, 91, 92] (by decide +kernel) (by decide +kernel)) (goodIn_sub (fun _ h => List.mem_cons_of_mem _ (List.mem_append_right _ h)) (by decide +kernel))
set_option maxRecDepth 20000 in
theorem gX4_readCarry_X4_number : GoodIn wsX4_readCarry (wsV RX4 105 RX4 yX4_number wsX4_number) := goodIn_app (goodIn_of _ (by decide +kernel)) ggX4_readCarry_X4_number
set_option maxRecDepth 20000 in
theorem ggX4_readCarry_X4_fail : GoodIn wsX4_readCarry wsX4_fail := goodIn_ca (goodIn_r _ [30, 31, 3, 32, 33, 34, 35, 21, 36, 23, 37, 50, 51, 52, 53, 54, 55, 56, 57, 58, 59, 60, 88, 89, 90, 91, 92] (by decide +kernel) (by decide +kernel)) (goodIn_sub (fun _ h => List.mem_cons_of_mem _ (List.mem_append_right _ h)) (by decide +kernel))
set_option maxRecDepth 20000 in
theorem gX4_readCarry_X4_fail : GoodIn wsX4_readCarry (wsV RX4 99 RX4 yX4_fail wsX4_fail) := goodIn_app (goodIn_of _ (by decide +kernel)) ggX4_readCarry_X4_fail
set_option maxRecDepth 20000 in
theorem ggX4_readCarry_X6_goOn : GoodIn wsX4_readCarry wsX6_goOn := goodIn_r _ [49, 23, 24, 88, 89, 90, 91, 92] (by decide +kernel) (by decide +kernel)
set_option maxRecDepth 20000 in
theorem gX4_readCarry_X6_goOn : GoodIn wsX4_readCarry (wsV RX4 108 RX6 yX6_goOn wsX6_goOn) := goodIn_app (goodIn_of _ (by decide +kernel)) ggX4_readCarry_X6_goOn
theorem dX4_readCarry_0 : decode cX4_readCarry 0 = .ok (.aload_n 0, 1) := by decide +kernel
theorem dX4_readCarry_1 : decode cX4_readCarry 1 = .ok (.iconst 0, 1) := by decide +kernel
theorem dX4_readCarry_2 : decode cX4_readCarry 2 = .ok (.aload_n 0, 1) := by decide +kernel
theorem dX4_readCarry_3 : decode cX4_readCarry 3 = .ok (.getfield 25, 3) := by decide +kernel
theorem dX4_readCarry_6 : decode cX4_readCarry 6 = .ok (.invokevirtual 236, 3) := by decide +kernel
theorem dX4_readCarry_9 : decode cX4_readCarry 9 = .ok (.iconst 1, 1) := by decide +kernel
theorem dX4_readCarry_10 : decode cX4_readCarry 10 = .ok (.isub, 1) := by decide +kernel
theorem dX4_readCarry_11 : decode cX4_readCarry 11 = .ok (.invokevirtual 105, 3) := by decide +kernel
theorem dX4_readCarry_14 : decode cX4_readCarry 14 = .ok (.istore_n 1, 1) := by decide +kernel
theorem dX4_readCarry_15 : decode cX4_readCarry 15 = .ok (.iload_n 1, 1) := by decide +kernel
theorem dX4_readCarry_16 : decode cX4_readCarry 16 = .ok (.iconst (-1), 1) := by decide +kernel
theorem dX4_readCarry_17 : decode cX4_readCarry 17 = .ok (.if_icmp .ne 4, 3) := by decide +kernel
theorem dX4_readCarry_20 : decode cX4_readCarry 20 = .ok (.return_, 1) := by decide +kernel
theorem dX4_readCarry_21 : decode cX4_readCarry 21 = .ok (.aload_n 0, 1) := by decide +kernel
theorem dX4_readCarry_22 : decode cX4_readCarry 22 = .ok (.getfield 25, 3) := by decide +kernel
theorem dX4_readCarry_25 : decode cX4_readCarry 25 = .ok (.getfield 239, 3) := by decide +kernel
theorem dX4_readCarry_28 : decode cX4_readCarry 28 = .ok (.iconst (-1), 1) := by decide +kernel
theorem dX4_readCarry_29 : decode cX4_readCarry 29 = .ok (.if_icmp .ne 9, 3) := by decide +kernel
theorem dX4_readCarry_32 : decode cX4_readCarry 32 = .ok (.aload_n 0, 1) := by decide +kernel
theorem dX4_readCarry_33 : decode cX4_readCarry 33 = .ok (.iconst 3, 1) := by decide +kernel
theorem dX4_readCarry_34 : decode cX4_readCarry 34 = .ok (.invokevirtual 99, 3) := by decide +kernel
theorem dX4_readCarry_37 : decode cX4_readCarry 37 = .ok (.return_, 1) := by decide +kernel
theorem dX4_readCarry_38 : decode cX4_readCarry 38 = .ok (.aload_n 0, 1) := by decide +kernel
theorem dX4_readCarry_39 : decode cX4_readCarry 39 = .ok (.getfield 12, 3) := by decide +kernel
theorem dX4_readCarry_42 : decode cX4_readCarry 42 = .ok (.invokevirtual 108, 3) := by decide +kernel
theorem dX4_readCarry_45 : decode cX4_readCarry 45 = .ok (.aload_n 0, 1) := by decide +kernel
theorem dX4_readCarry_46 : decode cX4_readCarry 46 = .ok (.getfield 25, 3) := by decide +kernel
theorem dX4_readCarry_49 : decode cX4_readCarry 49 = .ok (.iload_n 1, 1) := by decide +kernel
theorem dX4_readCarry_50 : decode cX4_readCarry 50 = .ok (.putfield 239, 3) := by decide +kernel
theorem dX4_readCarry_53 : decode cX4_readCarry 53 = .ok (.return_, 1) := by decide +kernel
set_option maxRecDepth 20000 in
theorem ggX4_takeMinutes_X4_fail : GoodIn wsX4_takeMinutes wsX4_fail := goodIn_ca (goodIn_r _ [7, 8, 2, 9, 10, 11, 12, 13, 14, 15, 16, 22, 23, 24, 25, 26, 27, 28, 29, 30, 31, 32, 33, 34, 35, 36, 37] (by decide +kernel) (by decide +kernel)) (goodIn_sub (fun _ h => List.mem_cons_of_mem _ (List.mem_append_right _ h)) (by decide +kernel))
set_option maxRecDepth 20000 in
theorem gX4_takeMinutes_X4_fail : GoodIn wsX4_takeMinutes (wsV RX4 99 RX4 yX4_fail wsX4_fail) := goodIn_app (goodIn_of _ (by decide +kernel)) ggX4_takeMinutes_X4_fail
set_option maxRecDepth 20000 in
theorem ggX4_takeMinutes_X6_goOn : GoodIn wsX4_takeMinutes wsX6_goOn := goodIn_r _ [20, 15, 21, 33, 34, 35, 36, 37] (by decide +kernel) (by decide +kernel)
set_option maxRecDepth 20000 in
theorem gX4_takeMinutes_X6_goOn : GoodIn wsX4_takeMinutes (wsV RX4 108 RX6 yX6_goOn wsX6_goOn) := goodIn_app (goodIn_of _ (by decide +kernel)) ggX4_takeMinutes_X6_goOn
theorem dX4_takeMinutes_0 : decode cX4_takeMinutes 0 = .ok (.iload_n 1, 1) := by decide +kernel
theorem dX4_takeMinutes_1 : decode cX4_takeMinutes 1 = .ok (.iconst (-1), 1) := by decide +kernel
theorem dX4_takeMinutes_2 : decode cX4_takeMinutes 2 = .ok (.if_icmp .ne 5, 3) := by decide +kernel
theorem dX4_takeMinutes_5 : decode cX4_takeMinutes 5 = .ok (.iconst 0, 1) := by decide +kernel
theorem dX4_takeMinutes_6 : decode cX4_takeMinutes 6 = .ok (.ireturn, 1) := by decide +kernel
theorem dX4_takeMinutes_7 : decode cX4_takeMinutes 7 = .ok (.aload_n 0, 1) := by decide +kernel
theorem dX4_takeMinutes_8 : decode cX4_takeMinutes 8 = .ok (.getfield 80, 3) := by decide +kernel
theorem dX4_takeMinutes_11 : decode cX4_takeMinutes 11 = .ok (.iload_n 1, 1) := by decide +kernel
theorem dX4_takeMinutes_12 : decode cX4_takeMinutes 12 = .ok (.iadd, 1) := by decide +kernel
theorem dX4_takeMinutes_13 : decode cX4_takeMinutes 13 = .ok (.sipush 2000, 3) := by decide +kernel
theorem dX4_takeMinutes_16 : decode cX4_takeMinutes 16 = .ok (.if_icmp .le 10, 3) := by decide +kernel
theorem dX4_takeMinutes_19 : decode cX4_takeMinutes 19 = .ok (.aload_n 0, 1) := by decide +kernel
theorem dX4_takeMinutes_20 : decode cX4_takeMinutes 20 = .ok (.iconst 4, 1) := by decide +kernel
theorem dX4_takeMinutes_21 : decode cX4_takeMinutes 21 = .ok (.invokevirtual 99, 3) := by decide +kernel
theorem dX4_takeMinutes_24 : decode cX4_takeMinutes 24 = .ok (.iconst 0, 1) := by decide +kernel
theorem dX4_takeMinutes_25 : decode cX4_takeMinutes 25 = .ok (.ireturn, 1) := by decide +kernel
theorem dX4_takeMinutes_26 : decode cX4_takeMinutes 26 = .ok (.aload_n 0, 1) := by decide +kernel
theorem dX4_takeMinutes_27 : decode cX4_takeMinutes 27 = .ok (.getfield 12, 3) := by decide +kernel
theorem dX4_takeMinutes_30 : decode cX4_takeMinutes 30 = .ok (.invokevirtual 108, 3) := by decide +kernel
theorem dX4_takeMinutes_33 : decode cX4_takeMinutes 33 = .ok (.aload_n 0, 1) := by decide +kernel
theorem dX4_takeMinutes_34 : decode cX4_takeMinutes 34 = .ok (.dup, 1) := by decide +kernel
theorem dX4_takeMinutes_35 : decode cX4_takeMinutes 35 = .ok (.getfield 80, 3) := by decide +kernel
theorem dX4_takeMinutes_38 : decode cX4_takeMinutes 38 = .ok (.iload_n 1, 1) := by decide +kernel
theorem dX4_takeMinutes_39 : decode cX4_takeMinutes 39 = .ok (.iadd, 1) := by decide +kernel
theorem dX4_takeMinutes_40 : decode cX4_takeMinutes 40 = .ok (.putfield 80, 3) := by decide +kernel
theorem dX4_takeMinutes_43 : decode cX4_takeMinutes 43 = .ok (.iload_n 1, 1) := by decide +kernel
theorem dX4_takeMinutes_44 : decode cX4_takeMinutes 44 = .ok (.ireturn, 1) := by decide +kernel
set_option maxRecDepth 20000 in
theorem ggX4_readRepeat_X4_takeNumber : GoodIn wsX4_readRepeat wsX4_takeNumber := goodIn_ca (goodIn_r _ [11, 1, 12, 13, 14, 10, 15, 16, 17, 18, 19, 20, 21, 22, 23, 24, 25, 26, 27, 28, 29, 30, 31, 32, 33, 34, 35, 36, 37, 38, 39, 40, 41, 42, 43, 44, 45, 46, 47, 48, 55, 56, 57, 58, 59, 60, 61, 62, 63, 64, 65, 66, 67, 68, 69, 70] (by decide +kernel) (by decide +kernel)) (goodIn_sub (fun _ h => List.mem_cons_of_mem _ (List.mem_append_right _ h)) (by decide +kernel))
set_option maxRecDepth 20000 in
theorem gX4_readRepeat_X4_takeNumber : GoodIn wsX4_readRepeat (wsV RX4 114 RX4 yX4_takeNumber wsX4_takeNumber) := goodIn_app (goodIn_of _ (by decide +kernel)) ggX4_readRepeat_X4_takeNumber
set_option maxRecDepth 20000 in
theorem ggX4_readRepeat_X6_sign : GoodIn wsX4_readRepeat wsX6_sign := goodIn_r _ [21, 22, 23, 24, 25, 66, 67, 68, 69, 70] (by decide +kernel) (by decide +kernel)
set_option maxRecDepth 20000 in
theorem gX4_readRepeat_X6_sign : GoodIn wsX4_readRepeat (wsV RX4 89 RX6 yX6_sign wsX6_sign) := goodIn_app (goodIn_of _ (by decide +kernel)) ggX4_readRepeat_X6_sign
set_option maxRecDepth 20000 in
theorem ggX4_readRepeat_X4_fail : GoodIn wsX4_readRepeat wsX4_fail := goodIn_ca (goodIn_r _ [29, 30, 1, 31, 32, 33, 34, 20, 35, 22, 36, 55, 56, 57, 58, 59, 60, 61, 62, 63, 64, 65, 66, 67, 68, 69, 70] (by decide +kernel) (by decide +kernel)) (goodIn_sub (fun _ h => List.mem_cons_of_mem _ (List.mem_append_right _ h)) (by decide +kernel))
set_option maxRecDepth 20000 in
theorem gX4_readRepeat_X4_fail : GoodIn wsX4_readRepeat (wsV RX4 99 RX4 yX4_fail wsX4_fail) := goodIn_app (goodIn_of _ (by decide +kernel)) ggX4_readRepeat_X4_fail
set_option maxRecDepth 20000 in
theorem ggX4_readRepeat_X6_goOn : GoodIn wsX4_readRepeat wsX6_goOn := goodIn_r _ [48, 22, 23, 66, 67, 68, 69, 70] (by decide +kernel) (by decide +kernel)
set_option maxRecDepth 20000 in
theorem gX4_readRepeat_X6_goOn : GoodIn wsX4_readRepeat (wsV RX4 108 RX6 yX6_goOn wsX6_goOn) := goodIn_app (goodIn_of _ (by decide +kernel)) ggX4_readRepeat_X6_goOn
set_option maxRecDepth 20000 in
theorem ggX4_readRepeat_X6_mark : GoodIn wsX4_readRepeat wsX6_mark := goodIn_r _ [52, 22, 66, 67, 68, 69, 70] (by decide +kernel) (by decide +kernel)
set_option maxRecDepth 20000 in
theorem gX4_readRepeat_X6_mark : GoodIn wsX4_readRepeat (wsV RX4 342 RX6 yX6_mark wsX6_mark) := goodIn_app (goodIn_of _ (by decide +kernel)) ggX4_readRepeat_X6_mark
set_option maxRecDepth 20000 in
theorem ggX4_readRepeat_X9_put : GoodIn wsX4_readRepeat wsX9_put := goodIn_ca (goodIn_r _ [54] (by decide +kernel) (by decide +kernel)) (goodIn_sub (fun _ h => List.mem_cons_of_mem _ (List.mem_append_right _ h)) (by decide +kernel))
set_option maxRecDepth 20000 in
theorem gX4_readRepeat_X9_put_n148 : GoodIn wsX4_readRepeat (wsX9_put) := ggX4_readRepeat_X9_put
theorem dX4_readRepeat_0 : decode cX4_readRepeat 0 = .ok (.aload_n 0, 1) := by decide +kernel
theorem dX4_readRepeat_1 : decode cX4_readRepeat 1 = .ok (.iconst 1, 1) := by decide +kernel
theorem dX4_readRepeat_2 : decode cX4_readRepeat 2 = .ok (.iconst 5, 1) := by decide +kernel
theorem dX4_readRepeat_3 : decode cX4_readRepeat 3 = .ok (.invokevirtual 114, 3) := by decide +kernel
theorem dX4_readRepeat_6 : decode cX4_readRepeat 6 = .ok (.istore_n 1, 1) := by decide +kernel
theorem dX4_readRepeat_7 : decode cX4_readRepeat 7 = .ok (.iload_n 1, 1) := by decide +kernel
theorem dX4_readRepeat_8 : decode cX4_readRepeat 8 = .ok (.iconst (-1), 1) := by decide +kernel
theorem dX4_readRepeat_9 : decode cX4_readRepeat 9 = .ok (.if_icmp .ne 4, 3) := by decide +kernel
theorem dX4_readRepeat_12 : decode cX4_readRepeat 12 = .ok (.return_, 1) := by decide +kernel
theorem dX4_readRepeat_13 : decode cX4_readRepeat 13 = .ok (.aload_n 0, 1) := by decide +kernel
theorem dX4_readRepeat_14 : decode cX4_readRepeat 14 = .ok (.getfield 12, 3) := by decide +kernel
theorem dX4_readRepeat_17 : decode cX4_readRepeat 17 = .ok (.invokevirtual 89, 3) := by decide +kernel
theorem dX4_readRepeat_20 : decode cX4_readRepeat 20 = .ok (.getstatic 339, 3) := by decide +kernel
theorem dX4_readRepeat_23 : decode cX4_readRepeat 23 = .ok (.if_acmp .eq 9, 3) := by decide +kernel
theorem dX4_readRepeat_26 : decode cX4_readRepeat 26 = .ok (.aload_n 0, 1) := by decide +kernel
theorem dX4_readRepeat_27 : decode cX4_readRepeat 27 = .ok (.iconst 1, 1) := by decide +kernel
theorem dX4_readRepeat_28 : decode cX4_readRepeat 28 = .ok (.invokevirtual 99, 3) := by decide +kernel
theorem dX4_readRepeat_31 : decode cX4_readRepeat 31 = .ok (.return_, 1) := by decide +kernel
theorem dX4_readRepeat_32 : decode cX4_readRepeat 32 = .ok (.aload_n 0, 1) := by decide +kernel
theorem dX4_readRepeat_33 : decode cX4_readRepeat 33 = .ok (.getfield 12, 3) := by decide +kernel
theorem dX4_readRepeat_36 : decode cX4_readRepeat 36 = .ok (.invokevirtual 108, 3) := by decide +kernel
theorem dX4_readRepeat_39 : decode cX4_readRepeat 39 = .ok (.aload_n 0, 1) := by decide +kernel
theorem dX4_readRepeat_40 : decode cX4_readRepeat 40 = .ok (.getfield 18, 3) := by decide +kernel
theorem dX4_readRepeat_43 : decode cX4_readRepeat 43 = .ok (.aload_n 0, 1) := by decide +kernel
theorem dX4_readRepeat_44 : decode cX4_readRepeat 44 = .ok (.getfield 77, 3) := by decide +kernel
theorem dX4_readRepeat_47 : decode cX4_readRepeat 47 = .ok (.aload_n 0, 1) := by decide +kernel
theorem dX4_readRepeat_48 : decode cX4_readRepeat 48 = .ok (.getfield 12, 3) := by decide +kernel
theorem dX4_readRepeat_51 : decode cX4_readRepeat 51 = .ok (.invokevirtual 342, 3) := by decide +kernel
theorem dX4_readRepeat_54 : decode cX4_readRepeat 54 = .ok (.invokestatic 148, 3) := by decide +kernel
theorem dX4_readRepeat_57 : decode cX4_readRepeat 57 = .ok (.aload_n 0, 1) := by decide +kernel
theorem dX4_readRepeat_58 : decode cX4_readRepeat 58 = .ok (.getfield 22, 3) := by decide +kernel
theorem dX4_readRepeat_61 : decode cX4_readRepeat 61 = .ok (.aload_n 0, 1) := by decide +kernel
theorem dX4_readRepeat_62 : decode cX4_readRepeat 62 = .ok (.getfield 77, 3) := by decide +kernel
theorem dX4_readRepeat_65 : decode cX4_readRepeat 65 = .ok (.iload_n 1, 1) := by decide +kernel
theorem dX4_readRepeat_66 : decode cX4_readRepeat 66 = .ok (.iconst 1, 1) := by decide +kernel
theorem dX4_readRepeat_67 : decode cX4_readRepeat 67 = .ok (.isub, 1) := by decide +kernel
theorem dX4_readRepeat_68 : decode cX4_readRepeat 68 = .ok (.invokestatic 148, 3) := by decide +kernel
theorem dX4_readRepeat_71 : decode cX4_readRepeat 71 = .ok (.aload_n 0, 1) := by decide +kernel
theorem dX4_readRepeat_72 : decode cX4_readRepeat 72 = .ok (.dup, 1) := by decide +kernel
theorem dX4_readRepeat_73 : decode cX4_readRepeat 73 = .ok (.getfield 77, 3) := by decide +kernel
theorem dX4_readRepeat_76 : decode cX4_readRepeat 76 = .ok (.iconst 1, 1) := by decide +kernel
theorem dX4_readRepeat_77 : decode cX4_readRepeat 77 = .ok (.iadd, 1) := by decide +kernel
theorem dX4_readRepeat_78 : decode cX4_readRepeat 78 = .ok (.putfield 77, 3) := by decide +kernel
theorem dX4_readRepeat_81 : decode cX4_readRepeat 81 = .ok (.aload_n 0, 1) := by decide +kernel
theorem dX4_readRepeat_82 : decode cX4_readRepeat 82 = .ok (.iconst 1, 1) := by decide +kernel
theorem dX4_readRepeat_83 : decode cX4_readRepeat 83 = .ok (.putfield 51, 3) := by decide +kernel
theorem dX4_readRepeat_86 : decode cX4_readRepeat 86 = .ok (.return_, 1) := by decide +kernel
theorem dX6_init_0 : decode cX6_init 0 = .ok (.aload_n 0, 1) := by decide +kernel
theorem dX6_init_1 : decode cX6_init 1 = .ok (.invokespecial 3, 3) := by decide +kernel
theorem dX6_init_4 : decode cX6_init 4 = .ok (.aload_n 0, 1) := by decide +kernel
theorem dX6_init_5 : decode cX6_init 5 = .ok (.sipush 501, 3) := by decide +kernel
theorem dX6_init_8 : decode cX6_init 8 = .ok (.anewarray 9, 3) := by decide +kernel
theorem dX6_init_11 : decode cX6_init 11 = .ok (.putfield 11, 3) := by decide +kernel
theorem dX6_init_14 : decode cX6_init 14 = .ok (.aload_n 0, 1) := by decide +kernel
theorem dX6_init_15 : decode cX6_init 15 = .ok (.sipush 501, 3) := by decide +kernel
theorem dX6_init_18 : decode cX6_init 18 = .ok (.newarray .int, 2) := by decide +kernel
theorem dX6_init_20 : decode cX6_init 20 = .ok (.putfield 17, 3) := by decide +kernel
theorem dX6_init_23 : decode cX6_init 23 = .ok (.aload_n 0, 1) := by decide +kernel
theorem dX6_init_24 : decode cX6_init 24 = .ok (.sipush 501, 3) := by decide +kernel
theorem dX6_init_27 : decode cX6_init 27 = .ok (.newarray .int, 2) := by decide +kernel
theorem dX6_init_29 : decode cX6_init 29 = .ok (.putfield 21, 3) := by decide +kernel
theorem dX6_init_32 : decode cX6_init 32 = .ok (.return_, 1) := by decide +kernel
set_option maxRecDepth 20000 in
theorem ggX6_scan_X9_at : GoodIn wsX6_scan wsX9_at := goodIn_ca (goodIn_r _ [6] (by decide +kernel) (by decide +kernel)) (goodIn_sub (fun _ h => List.mem_cons_of_mem _ (List.mem_append_right _ h)) (by decide +kernel))
set_option maxRecDepth 20000 in
theorem gX6_scan_X9_at_n31 : GoodIn wsX6_scan (wsX9_at) := ggX6_scan_X9_at
set_option maxRecDepth 20000 in
theorem ggX6_scan_X6_tokenEnd : GoodIn wsX6_scan wsX6_tokenEnd := goodIn_ca (goodIn_r _ [10, 4, 5, 6, 11, 12, 9, 13, 14, 15, 16] (by decide +kernel) (by decide +kernel)) (goodIn_sub (fun _ h => List.mem_cons_of_mem _ (List.mem_append_right _ h)) (by decide +kernel))
set_option maxRecDepth 20000 in
theorem gX6_scan_X6_tokenEnd : GoodIn wsX6_scan (va_wsS RX6 35 yX6_tokenEnd wsX6_tokenEnd) := goodIn_app (goodIn_of _ (by decide +kernel)) ggX6_scan_X6_tokenEnd
set_option maxRecDepth 20000 in
theorem ggX6_scan_X6_signOf : GoodIn wsX6_scan wsX6_signOf := goodIn_ca (goodIn_r _ [19, 20, 21, 22, 23, 4, 5, 6, 14, 15, 9, 16, 24, 25, 26, 27, 28, 29, 30, 31, 32, 33, 34, 35, 36, 37, 38, 39, 40, 41, 42, 43, 44, 45, 46, 47, 48, 49, 50, 51, 52, 53, 54, 55, 56, 57, 58, 59, 60, 61, 62, 63, 64, 65, 66, 67, 68, 69, 70, 71, 72, 73, 74, 75, 93, 94, 95, 96] (by decide +kernel) (by decide +kernel)) (goodIn_sub (fun _ h => List.mem_cons_of_mem _ (List.mem_append_right _ h)) (by decide +kernel))
set_option maxRecDepth 20000 in
theorem gX6_scan_X6_signOf : GoodIn wsX6_scan (va_wsS RX6 39 yX6_signOf wsX6_signOf) := goodIn_app (goodIn_of _ (by decide +kernel)) ggX6_scan_X6_signOf
set_option maxRecDepth 20000 in
theorem ggX6_scan_X6_numberOf : GoodIn wsX6_scan wsX6_numberOf := goodIn_ca (goodIn_r _ [78, 4, 5, 6] (by decide +kernel) (by decide +kernel)) (goodIn_sub (fun _ h => List.mem_cons_of_mem _ (List.mem_append_right _ h)) (by decide +kernel))
set_option maxRecDepth 20000 in
theorem gX6_scan_X6_numberOf : GoodIn wsX6_scan (va_wsS RX6 43 yX6_numberOf wsX6_numberOf) := goodIn_app (goodIn_of _ (by decide +kernel)) ggX6_scan_X6_numberOf
set_option maxRecDepth 20000 in
theorem ggX6_scan_X6_add : GoodIn wsX6_scan wsX6_add := goodIn_ca (goodIn_r _ [82, 1, 83, 84, 85, 86, 5, 87, 88, 89, 90, 91, 92] (by decide +kernel) (by decide +kernel)) (goodIn_sub (fun _ h => List.mem_cons_of_mem _ (List.mem_append_right _ h)) (by decide +kernel))
set_option maxRecDepth 20000 in
theorem gX6_scan_X6_add : GoodIn wsX6_scan (wsV RX6 46 RX6 yX6_add wsX6_add) := goodIn_app (goodIn_of _ (by decide +kernel)) ggX6_scan_X6_add
theorem dX6_scan_0 : decode cX6_scan 0 = .ok (.aload_n 0, 1) := by decide +kernel
theorem dX6_scan_1 : decode cX6_scan 1 = .ok (.iconst 0, 1) := by decide +kernel
theorem dX6_scan_2 : decode cX6_scan 2 = .ok (.putfield 24, 3) := by decide +kernel
theorem dX6_scan_5 : decode cX6_scan 5 = .ok (.aload_n 0, 1) := by decide +kernel
theorem dX6_scan_6 : decode cX6_scan 6 = .ok (.iconst 0, 1) := by decide +kernel
theorem dX6_scan_7 : decode cX6_scan 7 = .ok (.putfield 28, 3) := by decide +kernel
theorem dX6_scan_10 : decode cX6_scan 10 = .ok (.iconst 0, 1) := by decide +kernel
theorem dX6_scan_11 : decode cX6_scan 11 = .ok (.istore_n 3, 1) := by decide +kernel
theorem dX6_scan_12 : decode cX6_scan 12 = .ok (.iconst 0, 1) := by decide +kernel
theorem dX6_scan_13 : decode cX6_scan 13 = .ok (.istore 4, 2) := by decide +kernel
theorem dX6_scan_15 : decode cX6_scan 15 = .ok (.iload 4, 2) := by decide +kernel
theorem dX6_scan_17 : decode cX6_scan 17 = .ok (.iload_n 2, 1) := by decide +kernel
theorem dX6_scan_18 : decode cX6_scan 18 = .ok (.if_icmp .ge 54, 3) := by decide +kernel
theorem dX6_scan_21 : decode cX6_scan 21 = .ok (.iload 4, 2) := by decide +kernel
theorem dX6_scan_23 : decode cX6_scan 23 = .ok (.iload_n 3, 1) := by decide +kernel
theorem dX6_scan_24 : decode cX6_scan 24 = .ok (.if_icmp .lt 42, 3) := by decide +kernel
theorem dX6_scan_27 : decode cX6_scan 27 = .ok (.aload_n 1, 1) := by decide +kernel
theorem dX6_scan_28 : decode cX6_scan 28 = .ok (.iload 4, 2) := by decide +kernel
theorem dX6_scan_30 : decode cX6_scan 30 = .ok (.invokestatic 31, 3) := by decide +kernel
theorem dX6_scan_33 : decode cX6_scan 33 = .ok (.bipush 32, 2) := by decide +kernel
theorem dX6_scan_35 : decode cX6_scan 35 = .ok (.if_icmp .eq 31, 3) := by decide +kernel
theorem dX6_scan_38 : decode cX6_scan 38 = .ok (.aload_n 1, 1) := by decide +kernel
theorem dX6_scan_39 : decode cX6_scan 39 = .ok (.iload 4, 2) := by decide +kernel
theorem dX6_scan_41 : decode cX6_scan 41 = .ok (.iload_n 2, 1) := by decide +kernel
theorem dX6_scan_42 : decode cX6_scan 42 = .ok (.invokestatic 35, 3) := by decide +kernel
theorem dX6_scan_45 : decode cX6_scan 45 = .ok (.istore_n 3, 1) := by decide +kernel
theorem dX6_scan_46 : decode cX6_scan 46 = .ok (.aload_n 0, 1) := by decide +kernel
theorem dX6_scan_47 : decode cX6_scan 47 = .ok (.aload_n 1, 1) := by decide +kernel
theorem dX6_scan_48 : decode cX6_scan 48 = .ok (.iload 4, 2) := by decide +kernel
theorem dX6_scan_50 : decode cX6_scan 50 = .ok (.iload_n 3, 1) := by decide +kernel
theorem dX6_scan_51 : decode cX6_scan 51 = .ok (.invokestatic 39, 3) := by decide +kernel
theorem dX6_scan_54 : decode cX6_scan 54 = .ok (.iload 4, 2) := by decide +kernel
theorem dX6_scan_56 : decode cX6_scan 56 = .ok (.aload_n 1, 1) := by decide +kernel
theorem dX6_scan_57 : decode cX6_scan 57 = .ok (.iload 4, 2) := by decide +kernel
theorem dX6_scan_59 : decode cX6_scan 59 = .ok (.iload_n 3, 1) := by decide +kernel
theorem dX6_scan_60 : decode cX6_scan 60 = .ok (.invokestatic 43, 3) := by decide +kernel
theorem dX6_scan_63 : decode cX6_scan 63 = .ok (.invokevirtual 46, 3) := by decide +kernel
theorem dX6_scan_66 : decode cX6_scan 66 = .ok (.iinc 4 1, 3) := by decide +kernel
theorem dX6_scan_69 : decode cX6_scan 69 = .ok (.goto (-54), 3) := by decide +kernel
theorem dX6_scan_72 : decode cX6_scan 72 = .ok (.aload_n 0, 1) := by decide +kernel
theorem dX6_scan_73 : decode cX6_scan 73 = .ok (.getstatic 50, 3) := by decide +kernel
theorem dX6_scan_76 : decode cX6_scan 76 = .ok (.iload_n 2, 1) := by decide +kernel
theorem dX6_scan_77 : decode cX6_scan 77 = .ok (.iconst 0, 1) := by decide +kernel
theorem dX6_scan_78 : decode cX6_scan 78 = .ok (.invokevirtual 46, 3) := by decide +kernel
theorem dX6_scan_81 : decode cX6_scan 81 = .ok (.return_, 1) := by decide +kernel
set_option maxRecDepth 20000 in
theorem ggX6_tokenEnd_X9_at : GoodIn wsX6_tokenEnd wsX9_at := goodIn_ca (goodIn_r _ [3] (by decide +kernel) (by decide +kernel)) (goodIn_sub (fun _ h => List.mem_cons_of_mem _ (List.mem_append_right _ h)) (by decide +kernel))
set_option maxRecDepth 20000 in
theorem gX6_tokenEnd_X9_at_n31 : GoodIn wsX6_tokenEnd (wsX9_at) := ggX6_tokenEnd_X9_at
set_option maxRecDepth 20000 in
theorem ggX6_tokenEnd_X6_isLetter : GoodIn wsX6_tokenEnd wsX6_isLetter := goodIn_r _ [7] (by decide +kernel) (by decide +kernel)
set_option maxRecDepth 20000 in
theorem gX6_tokenEnd_X6_isLetter : GoodIn wsX6_tokenEnd (va_wsS RX6 54 yX6_isLetter wsX6_isLetter) := goodIn_app (goodIn_of _ (by decide +kernel)) ggX6_tokenEnd_X6_isLetter
set_option maxRecDepth 20000 in
theorem ggX6_tokenEnd_X6_isDigit : GoodIn wsX6_tokenEnd wsX6_isDigit := goodIn_r _ [10] (by decide +kernel) (by decide +kernel)
set_option maxRecDepth 20000 in
theorem gX6_tokenEnd_X6_isDigit : GoodIn wsX6_tokenEnd (va_wsS RX6 58 yX6_isDigit wsX6_isDigit) := goodIn_app (goodIn_of _ (by decide +kernel)) ggX6_tokenEnd_X6_isDigit
theorem dX6_tokenEnd_0 : decode cX6_tokenEnd 0 = .ok (.aload_n 0, 1) := by decide +kernel
theorem dX6_tokenEnd_1 : decode cX6_tokenEnd 1 = .ok (.iload_n 1, 1) := by decide +kernel
theorem dX6_tokenEnd_2 : decode cX6_tokenEnd 2 = .ok (.invokestatic 31, 3) := by decide +kernel
theorem dX6_tokenEnd_5 : decode cX6_tokenEnd 5 = .ok (.istore_n 3, 1) := by decide +kernel
theorem dX6_tokenEnd_6 : decode cX6_tokenEnd 6 = .ok (.iload_n 1, 1) := by decide +kernel
theorem dX6_tokenEnd_7 : decode cX6_tokenEnd 7 = .ok (.iconst 1, 1) := by decide +kernel
theorem dX6_tokenEnd_8 : decode cX6_tokenEnd 8 = .ok (.iadd, 1) := by decide +kernel
theorem dX6_tokenEnd_9 : decode cX6_tokenEnd 9 = .ok (.istore 4, 2) := by decide +kernel
theorem dX6_tokenEnd_11 : decode cX6_tokenEnd 11 = .ok (.iload 4, 2) := by decide +kernel
theorem dX6_tokenEnd_13 : decode cX6_tokenEnd 13 = .ok (.iload_n 2, 1) := by decide +kernel
theorem dX6_tokenEnd_14 : decode cX6_tokenEnd 14 = .ok (.if_icmp .ge 47, 3) := by decide +kernel
theorem dX6_tokenEnd_17 : decode cX6_tokenEnd 17 = .ok (.iload_n 3, 1) := by decide +kernel
theorem dX6_tokenEnd_18 : decode cX6_tokenEnd 18 = .ok (.invokestatic 54, 3) := by decide +kernel
theorem dX6_tokenEnd_21 : decode cX6_tokenEnd 21 = .ok (.ifCond .eq 15, 3) := by decide +kernel
theorem dX6_tokenEnd_24 : decode cX6_tokenEnd 24 = .ok (.aload_n 0, 1) := by decide +kernel
theorem dX6_tokenEnd_25 : decode cX6_tokenEnd 25 = .ok (.iload 4, 2) := by decide +kernel
theorem dX6_tokenEnd_27 : decode cX6_tokenEnd 27 = .ok (.invokestatic 31, 3) := by decide +kernel
theorem dX6_tokenEnd_30 : decode cX6_tokenEnd 30 = .ok (.invokestatic 54, 3) := by decide +kernel
theorem dX6_tokenEnd_33 : decode cX6_tokenEnd 33 = .ok (.ifCond .ne 22, 3) := by decide +kernel
theorem dX6_tokenEnd_36 : decode cX6_tokenEnd 36 = .ok (.iload_n 3, 1) := by decide +kernel
theorem dX6_tokenEnd_37 : decode cX6_tokenEnd 37 = .ok (.invokestatic 58, 3) := by decide +kernel
theorem dX6_tokenEnd_40 : decode cX6_tokenEnd 40 = .ok (.ifCond .eq 21, 3) := by decide +kernel
theorem dX6_tokenEnd_43 : decode cX6_tokenEnd 43 = .ok (.aload_n 0, 1) := by decide +kernel
theorem dX6_tokenEnd_44 : decode cX6_tokenEnd 44 = .ok (.iload 4, 2) := by decide +kernel
theorem dX6_tokenEnd_46 : decode cX6_tokenEnd 46 = .ok (.invokestatic 31, 3) := by decide +kernel
theorem dX6_tokenEnd_49 : decode cX6_tokenEnd 49 = .ok (.invokestatic 58, 3) := by decide +kernel
theorem dX6_tokenEnd_52 : decode cX6_tokenEnd 52 = .ok (.ifCond .eq 9, 3) := by decide +kernel
theorem dX6_tokenEnd_55 : decode cX6_tokenEnd 55 = .ok (.iinc 4 1, 3) := by decide +kernel
theorem dX6_tokenEnd_58 : decode cX6_tokenEnd 58 = .ok (.goto (-47), 3) := by decide +kernel
theorem dX6_tokenEnd_61 : decode cX6_tokenEnd 61 = .ok (.iload 4, 2) := by decide +kernel
theorem dX6_tokenEnd_63 : decode cX6_tokenEnd 63 = .ok (.ireturn, 1) := by decide +kernel
set_option maxRecDepth 20000 in
theorem ggX6_signOf_X9_at : GoodIn wsX6_signOf wsX9_at := goodIn_ca (goodIn_r _ [7] (by decide +kernel) (by decide +kernel)) (goodIn_sub (fun _ h => List.mem_cons_of_mem _ (List.mem_append_right _ h)) (by decide +kernel))
set_option maxRecDepth 20000 in
theorem gX6_signOf_X9_at_n31 : GoodIn wsX6_signOf (wsX9_at) := ggX6_signOf_X9_at
set_option maxRecDepth 20000 in
theorem ggX6_signOf_X6_isDigit : GoodIn wsX6_signOf wsX6_isDigit := goodIn_r _ [11] (by decide +kernel) (by decide +kernel)
set_option maxRecDepth 20000 in
theorem gX6_signOf_X6_isDigit : GoodIn wsX6_signOf (va_wsS RX6 58 yX6_isDigit wsX6_isDigit) := goodIn_app (goodIn_of _ (by decide +kernel)) ggX6_signOf_X6_isDigit
set_option maxRecDepth 20000 in
theorem ggX6_signOf_J0_length_8abf5 : GoodIn wsX6_signOf wsJ0_length_8abf5 := goodIn_r _ [16, 17, 18, 19, 20, 15, 21, 22, 23, 64, 65, 66, 67] (by decide +kernel) (by decide +kernel)
set_option maxRecDepth 20000 in
theorem gX6_signOf_J0_length_8abf5 : GoodIn wsX6_signOf (wsV RX6 74 RJ0 yJ0_length_8abf5 wsJ0_length_8abf5) := goodIn_app (goodIn_of _ (by decide +kernel)) ggX6_signOf_J0_length_8abf5
set_option maxRecDepth 20000 in
theorem ggX6_signOf_X6_spells : GoodIn wsX6_signOf wsX6_spells := goodIn_ca (goodIn_r _ [26, 12, 13, 14, 15, 16, 17, 18, 19, 20, 21, 22, 23, 27, 28, 29, 30, 31, 32, 33, 34, 35, 36, 37, 38, 39, 40, 41, 42, 43, 44, 45, 46, 47, 48, 49, 50, 51, 52, 53, 54, 55, 56, 57, 58, 59, 60, 61, 62, 63, 5, 6, 7, 64, 65, 66, 67] (by decide +kernel) (by decide +kernel)) (goodIn_sub (fun _ h => List.mem_cons_of_mem _ (List.mem_append_right _ h)) (by decide +kernel))
set_option maxRecDepth 20000 in
theorem gX6_signOf_X6_spells : GoodIn wsX6_signOf (va_wsS RX6 80 yX6_spells wsX6_spells) := goodIn_app (goodIn_of _ (by decide +kernel)) ggX6_signOf_X6_spells
theorem dX6_signOf_0 : decode cX6_signOf 0 = .ok (.aload_n 0, 1) := by decide +kernel
theorem dX6_signOf_1 : decode cX6_signOf 1 = .ok (.iload_n 1, 1) := by decide +kernel
theorem dX6_signOf_2 : decode cX6_signOf 2 = .ok (.invokestatic 31, 3) := by decide +kernel
theorem dX6_signOf_5 : decode cX6_signOf 5 = .ok (.invokestatic 58, 3) := by decide +kernel
theorem dX6_signOf_8 : decode cX6_signOf 8 = .ok (.ifCond .eq 20, 3) := by decide +kernel
theorem dX6_signOf_11 : decode cX6_signOf 11 = .ok (.iload_n 2, 1) := by decide +kernel
theorem dX6_signOf_12 : decode cX6_signOf 12 = .ok (.iload_n 1, 1) := by decide +kernel
theorem dX6_signOf_13 : decode cX6_signOf 13 = .ok (.isub, 1) := by decide +kernel
theorem dX6_signOf_14 : decode cX6_signOf 14 = .ok (.iconst 3, 1) := by decide +kernel
theorem dX6_signOf_15 : decode cX6_signOf 15 = .ok (.if_icmp .gt 9, 3) := by decide +kernel
theorem dX6_signOf_18 : decode cX6_signOf 18 = .ok (.getstatic 61, 3) := by decide +kernel
theorem dX6_signOf_21 : decode cX6_signOf 21 = .ok (.goto 6, 3) := by decide +kernel
theorem dX6_signOf_24 : decode cX6_signOf 24 = .ok (.getstatic 64, 3) := by decide +kernel
theorem dX6_signOf_27 : decode cX6_signOf 27 = .ok (.areturn, 1) := by decide +kernel
theorem dX6_signOf_28 : decode cX6_signOf 28 = .ok (.getstatic 67, 3) := by decide +kernel
theorem dX6_signOf_31 : decode cX6_signOf 31 = .ok (.astore_n 3, 1) := by decide +kernel
theorem dX6_signOf_32 : decode cX6_signOf 32 = .ok (.aload_n 3, 1) := by decide +kernel
theorem dX6_signOf_33 : decode cX6_signOf 33 = .ok (.arraylength, 1) := by decide +kernel
theorem dX6_signOf_34 : decode cX6_signOf 34 = .ok (.istore 4, 2) := by decide +kernel
theorem dX6_signOf_36 : decode cX6_signOf 36 = .ok (.iconst 0, 1) := by decide +kernel
theorem dX6_signOf_37 : decode cX6_signOf 37 = .ok (.istore 5, 2) := by decide +kernel
theorem dX6_signOf_39 : decode cX6_signOf 39 = .ok (.iload 5, 2) := by decide +kernel
theorem dX6_signOf_41 : decode cX6_signOf 41 = .ok (.iload 4, 2) := by decide +kernel
theorem dX6_signOf_43 : decode cX6_signOf 43 = .ok (.if_icmp .ge 45, 3) := by decide +kernel
theorem dX6_signOf_46 : decode cX6_signOf 46 = .ok (.aload_n 3, 1) := by decide +kernel
theorem dX6_signOf_47 : decode cX6_signOf 47 = .ok (.iload 5, 2) := by decide +kernel
theorem dX6_signOf_49 : decode cX6_signOf 49 = .ok (.aaload, 1) := by decide +kernel
theorem dX6_signOf_50 : decode cX6_signOf 50 = .ok (.astore 6, 2) := by decide +kernel
theorem dX6_signOf_52 : decode cX6_signOf 52 = .ok (.aload 6, 2) := by decide +kernel
theorem dX6_signOf_54 : decode cX6_signOf 54 = .ok (.getfield 70, 3) := by decide +kernel
theorem dX6_signOf_57 : decode cX6_signOf 57 = .ok (.invokevirtual 74, 3) := by decide +kernel
theorem dX6_signOf_60 : decode cX6_signOf 60 = .ok (.iload_n 2, 1) := by decide +kernel
theorem dX6_signOf_61 : decode cX6_signOf 61 = .ok (.iload_n 1, 1) := by decide +kernel
theorem dX6_signOf_62 : decode cX6_signOf 62 = .ok (.isub, 1) := by decide +kernel
theorem dX6_signOf_63 : decode cX6_signOf 63 = .ok (.if_icmp .ne 19, 3) := by decide +kernel
theorem dX6_signOf_66 : decode cX6_signOf 66 = .ok (.aload 6, 2) := by decide +kernel
theorem dX6_signOf_68 : decode cX6_signOf 68 = .ok (.getfield 70, 3) := by decide +kernel
theorem dX6_signOf_71 : decode cX6_signOf 71 = .ok (.aload_n 0, 1) := by decide +kernel
theorem dX6_signOf_72 : decode cX6_signOf 72 = .ok (.iload_n 1, 1) := by decide +kernel
theorem dX6_signOf_73 : decode cX6_signOf 73 = .ok (.invokestatic 80, 3) := by decide +kernel
theorem dX6_signOf_76 : decode cX6_signOf 76 = .ok (.ifCond .eq 6, 3) := by decide +kernel
theorem dX6_signOf_79 : decode cX6_signOf 79 = .ok (.aload 6, 2) := by decide +kernel
theorem dX6_signOf_81 : decode cX6_signOf 81 = .ok (.areturn, 1) := by decide +kernel
theorem dX6_signOf_82 : decode cX6_signOf 82 = .ok (.iinc 5 1, 3) := by decide +kernel
theorem dX6_signOf_85 : decode cX6_signOf 85 = .ok (.goto (-46), 3) := by decide +kernel
theorem dX6_signOf_88 : decode cX6_signOf 88 = .ok (.getstatic 64, 3) := by decide +kernel
theorem dX6_signOf_91 : decode cX6_signOf 91 = .ok (.areturn, 1) := by decide +kernel
set_option maxRecDepth 20000 in
theorem ggX6_spells_J0_length_8abf5 : GoodIn wsX6_spells wsJ0_length_8abf5 := goodIn_r _ [5, 6, 7, 8, 9, 4, 10, 11, 12, 53, 54, 55, 56] (by decide +kernel) (by decide +kernel)
set_option maxRecDepth 20000 in
theorem gX6_spells_J0_length_8abf5 : GoodIn wsX6_spells (wsV RX6 74 RJ0 yJ0_length_8abf5 wsJ0_length_8abf5) := goodIn_app (goodIn_of _ (by decide +kernel)) ggX6_spells_J0_length_8abf5
set_option maxRecDepth 20000 in
theorem ggX6_spells_J0_charAt_5068e : GoodIn wsX6_spells wsJ0_charAt_5068e := goodIn_r _ [16, 6, 17, 18, 19, 4, 20, 11, 12, 21, 22, 23, 24, 25, 26, 27, 28, 29, 30, 31, 32, 33, 34, 35, 36, 37, 38, 39, 40, 41, 42, 43, 44, 45, 46, 47, 48, 49, 53, 54, 55, 56] (by decide +kernel) (by decide +kernel)
set_option maxRecDepth 20000 in
theorem gX6_spells_J0_charAt_5068e : GoodIn wsX6_spells (wsV RX6 84 RJ0 yJ0_charAt_5068e wsJ0_charAt_5068e) := goodIn_app (goodIn_of _ (by decide +kernel)) ggX6_spells_J0_charAt_5068e
set_option maxRecDepth 20000 in
theorem ggX6_spells_X9_at : GoodIn wsX6_spells wsX9_at := goodIn_ca (goodIn_r _ [52] (by decide +kernel) (by decide +kernel)) (goodIn_sub (fun _ h => List.mem_cons_of_mem _ (List.mem_append_right _ h)) (by decide +kernel))
set_option maxRecDepth 20000 in
theorem gX6_spells_X9_at_n31 : GoodIn wsX6_spells (wsX9_at) := ggX6_spells_X9_at
theorem dX6_spells_0 : decode cX6_spells 0 = .ok (.iconst 0, 1) := by decide +kernel
theorem dX6_spells_1 : decode cX6_spells 1 = .ok (.istore_n 3, 1) := by decide +kernel
theorem dX6_spells_2 : decode cX6_spells 2 = .ok (.iload_n 3, 1) := by decide +kernel
theorem dX6_spells_3 : decode cX6_spells 3 = .ok (.aload_n 0, 1) := by decide +kernel
theorem dX6_spells_4 : decode cX6_spells 4 = .ok (.invokevirtual 74, 3) := by decide +kernel
theorem dX6_spells_7 : decode cX6_spells 7 = .ok (.if_icmp .ge 26, 3) := by decide +kernel
theorem dX6_spells_10 : decode cX6_spells 10 = .ok (.aload_n 0, 1) := by decide +kernel
theorem dX6_spells_11 : decode cX6_spells 11 = .ok (.iload_n 3, 1) := by decide +kernel
theorem dX6_spells_12 : decode cX6_spells 12 = .ok (.invokevirtual 84, 3) := by decide +kernel
theorem dX6_spells_15 : decode cX6_spells 15 = .ok (.aload_n 1, 1) := by decide +kernel
theorem dX6_spells_16 : decode cX6_spells 16 = .ok (.iload_n 2, 1) := by decide +kernel
theorem dX6_spells_17 : decode cX6_spells 17 = .ok (.iload_n 3, 1) := by decide +kernel
theorem dX6_spells_18 : decode cX6_spells 18 = .ok (.iadd, 1) := by decide +kernel
theorem dX6_spells_19 : decode cX6_spells 19 = .ok (.invokestatic 31, 3) := by decide +kernel
theorem dX6_spells_22 : decode cX6_spells 22 = .ok (.if_icmp .eq 5, 3) := by decide +kernel
theorem dX6_spells_25 : decode cX6_spells 25 = .ok (.iconst 0, 1) := by decide +kernel
theorem dX6_spells_26 : decode cX6_spells 26 = .ok (.ireturn, 1) := by decide +kernel
theorem dX6_spells_27 : decode cX6_spells 27 = .ok (.iinc 3 1, 3) := by decide +kernel
theorem dX6_spells_30 : decode cX6_spells 30 = .ok (.goto (-28), 3) := by decide +kernel
theorem dX6_spells_33 : decode cX6_spells 33 = .ok (.iconst 1, 1) := by decide +kernel
theorem dX6_spells_34 : decode cX6_spells 34 = .ok (.ireturn, 1) := by decide +kernel
set_option maxRecDepth 20000 in
theorem ggX6_numberOf_X9_at : GoodIn wsX6_numberOf wsX9_at := goodIn_ca (goodIn_r _ [3] (by decide +kernel) (by decide +kernel)) (goodIn_sub (fun _ h => List.mem_cons_of_mem _ (List.mem_append_right _ h)) (by decide +kernel))
set_option maxRecDepth 20000 in
theorem gX6_numberOf_X9_at_n31 : GoodIn wsX6_numberOf (wsX9_at) := ggX6_numberOf_X9_at
theorem dX6_numberOf_0 : decode cX6_numberOf 0 = .ok (.iconst 0, 1) := by decide +kernel
theorem dX6_numberOf_1 : decode cX6_numberOf 1 = .ok (.istore_n 3, 1) := by decide +kernel
theorem dX6_numberOf_2 : decode cX6_numberOf 2 = .ok (.iload_n 1, 1) := by decide +kernel
theorem dX6_numberOf_3 : decode cX6_numberOf 3 = .ok (.istore 4, 2) := by decide +kernel
theorem dX6_numberOf_5 : decode cX6_numberOf 5 = .ok (.iload 4, 2) := by decide +kernel
theorem dX6_numberOf_7 : decode cX6_numberOf 7 = .ok (.iload_n 2, 1) := by decide +kernel
theorem dX6_numberOf_8 : decode cX6_numberOf 8 = .ok (.if_icmp .ge 32, 3) := by decide +kernel
theorem dX6_numberOf_11 : decode cX6_numberOf 11 = .ok (.iload 4, 2) := by decide +kernel
theorem dX6_numberOf_13 : decode cX6_numberOf 13 = .ok (.iload_n 1, 1) := by decide +kernel
theorem dX6_numberOf_14 : decode cX6_numberOf 14 = .ok (.iconst 3, 1) := by decide +kernel
theorem dX6_numberOf_15 : decode cX6_numberOf 15 = .ok (.iadd, 1) := by decide +kernel
theorem dX6_numberOf_16 : decode cX6_numberOf 16 = .ok (.if_icmp .ge 24, 3) := by decide +kernel
theorem dX6_numberOf_19 : decode cX6_numberOf 19 = .ok (.iload_n 3, 1) := by decide +kernel
theorem dX6_numberOf_20 : decode cX6_numberOf 20 = .ok (.bipush 10, 2) := by decide +kernel
theorem dX6_numberOf_22 : decode cX6_numberOf 22 = .ok (.imul, 1) := by decide +kernel
theorem dX6_numberOf_23 : decode cX6_numberOf 23 = .ok (.aload_n 0, 1) := by decide +kernel
theorem dX6_numberOf_24 : decode cX6_numberOf 24 = .ok (.iload 4, 2) := by decide +kernel
theorem dX6_numberOf_26 : decode cX6_numberOf 26 = .ok (.invokestatic 31, 3) := by decide +kernel
theorem dX6_numberOf_29 : decode cX6_numberOf 29 = .ok (.iadd, 1) := by decide +kernel
theorem dX6_numberOf_30 : decode cX6_numberOf 30 = .ok (.bipush 48, 2) := by decide +kernel
theorem dX6_numberOf_32 : decode cX6_numberOf 32 = .ok (.isub, 1) := by decide +kernel
theorem dX6_numberOf_33 : decode cX6_numberOf 33 = .ok (.istore_n 3, 1) := by decide +kernel
theorem dX6_numberOf_34 : decode cX6_numberOf 34 = .ok (.iinc 4 1, 3) := by decide +kernel
theorem dX6_numberOf_37 : decode cX6_numberOf 37 = .ok (.goto (-32), 3) := by decide +kernel
theorem dX6_numberOf_40 : decode cX6_numberOf 40 = .ok (.iload_n 3, 1) := by decide +kernel
theorem dX6_numberOf_41 : decode cX6_numberOf 41 = .ok (.ireturn, 1) := by decide +kernel
theorem dX6_isLetter_0 : decode cX6_isLetter 0 = .ok (.iload_n 0, 1) := by decide +kernel
theorem dX6_isLetter_1 : decode cX6_isLetter 1 = .ok (.bipush 97, 2) := by decide +kernel
theorem dX6_isLetter_3 : decode cX6_isLetter 3 = .ok (.if_icmp .lt 13, 3) := by decide +kernel
theorem dX6_isLetter_6 : decode cX6_isLetter 6 = .ok (.iload_n 0, 1) := by decide +kernel
theorem dX6_isLetter_7 : decode cX6_isLetter 7 = .ok (.bipush 122, 2) := by decide +kernel
theorem dX6_isLetter_9 : decode cX6_isLetter 9 = .ok (.if_icmp .gt 7, 3) := by decide +kernel
theorem dX6_isLetter_12 : decode cX6_isLetter 12 = .ok (.iconst 1, 1) := by decide +kernel
theorem dX6_isLetter_13 : decode cX6_isLetter 13 = .ok (.goto 4, 3) := by decide +kernel
theorem dX6_isLetter_16 : decode cX6_isLetter 16 = .ok (.iconst 0, 1) := by decide +kernel
theorem dX6_isLetter_17 : decode cX6_isLetter 17 = .ok (.ireturn, 1) := by decide +kernel
theorem dX6_isDigit_0 : decode cX6_isDigit 0 = .ok (.iload_n 0, 1) := by decide +kernel
theorem dX6_isDigit_1 : decode cX6_isDigit 1 = .ok (.bipush 48, 2) := by decide +kernel
theorem dX6_isDigit_3 : decode cX6_isDigit 3 = .ok (.if_icmp .lt 13, 3) := by decide +kernel
theorem dX6_isDigit_6 : decode cX6_isDigit 6 = .ok (.iload_n 0, 1) := by decide +kernel
theorem dX6_isDigit_7 : decode cX6_isDigit 7 = .ok (.bipush 57, 2) := by decide +kernel
theorem dX6_isDigit_9 : decode cX6_isDigit 9 = .ok (.if_icmp .gt 7, 3) := by decide +kernel
theorem dX6_isDigit_12 : decode cX6_isDigit 12 = .ok (.iconst 1, 1) := by decide +kernel
theorem dX6_isDigit_13 : decode cX6_isDigit 13 = .ok (.goto 4, 3) := by decide +kernel
theorem dX6_isDigit_16 : decode cX6_isDigit 16 = .ok (.iconst 0, 1) := by decide +kernel
theorem dX6_isDigit_17 : decode cX6_isDigit 17 = .ok (.ireturn, 1) := by decide +kernel
set_option maxRecDepth 20000 in
theorem ggX6_add_X9_put : GoodIn wsX6_add wsX9_put := goodIn_ca (goodIn_r _ [7] (by decide +kernel) (by decide +kernel)) (goodIn_sub (fun _ h => List.mem_cons_of_mem _ (List.mem_append_right _ h)) (by decide +kernel))
set_option maxRecDepth 20000 in
theorem gX6_add_X9_put_n88 : GoodIn wsX6_add (wsX9_put) := ggX6_add_X9_put
theorem dX6_add_0 : decode cX6_add 0 = .ok (.aload_n 0, 1) := by decide +kernel
theorem dX6_add_1 : decode cX6_add 1 = .ok (.getfield 24, 3) := by decide +kernel
theorem dX6_add_4 : decode cX6_add 4 = .ok (.aload_n 0, 1) := by decide +kernel
theorem dX6_add_5 : decode cX6_add 5 = .ok (.getfield 11, 3) := by decide +kernel
theorem dX6_add_8 : decode cX6_add 8 = .ok (.arraylength, 1) := by decide +kernel
theorem dX6_add_9 : decode cX6_add 9 = .ok (.if_icmp .ge 47, 3) := by decide +kernel
theorem dX6_add_12 : decode cX6_add 12 = .ok (.aload_n 0, 1) := by decide +kernel
theorem dX6_add_13 : decode cX6_add 13 = .ok (.getfield 11, 3) := by decide +kernel
theorem dX6_add_16 : decode cX6_add 16 = .ok (.aload_n 0, 1) := by decide +kernel
theorem dX6_add_17 : decode cX6_add 17 = .ok (.getfield 24, 3) := by decide +kernel
theorem dX6_add_20 : decode cX6_add 20 = .ok (.aload_n 1, 1) := by decide +kernel
theorem dX6_add_21 : decode cX6_add 21 = .ok (.aastore, 1) := by decide +kernel
theorem dX6_add_22 : decode cX6_add 22 = .ok (.aload_n 0, 1) := by decide +kernel
theorem dX6_add_23 : decode cX6_add 23 = .ok (.getfield 17, 3) := by decide +kernel
theorem dX6_add_26 : decode cX6_add 26 = .ok (.aload_n 0, 1) := by decide +kernel
theorem dX6_add_27 : decode cX6_add 27 = .ok (.getfield 24, 3) := by decide +kernel
theorem dX6_add_30 : decode cX6_add 30 = .ok (.iload_n 2, 1) := by decide +kernel
theorem dX6_add_31 : decode cX6_add 31 = .ok (.invokestatic 88, 3) := by decide +kernel
theorem dX6_add_34 : decode cX6_add 34 = .ok (.aload_n 0, 1) := by decide +kernel
theorem dX6_add_35 : decode cX6_add 35 = .ok (.getfield 21, 3) := by decide +kernel
theorem dX6_add_38 : decode cX6_add 38 = .ok (.aload_n 0, 1) := by decide +kernel
theorem dX6_add_39 : decode cX6_add 39 = .ok (.getfield 24, 3) := by decide +kernel
theorem dX6_add_42 : decode cX6_add 42 = .ok (.iload_n 3, 1) := by decide +kernel
theorem dX6_add_43 : decode cX6_add 43 = .ok (.invokestatic 88, 3) := by decide +kernel
theorem dX6_add_46 : decode cX6_add 46 = .ok (.aload_n 0, 1) := by decide +kernel
theorem dX6_add_47 : decode cX6_add 47 = .ok (.dup, 1) := by decide +kernel
theorem dX6_add_48 : decode cX6_add 48 = .ok (.getfield 24, 3) := by decide +kernel
theorem dX6_add_51 : decode cX6_add 51 = .ok (.iconst 1, 1) := by decide +kernel
theorem dX6_add_52 : decode cX6_add 52 = .ok (.iadd, 1) := by decide +kernel
theorem dX6_add_53 : decode cX6_add 53 = .ok (.putfield 24, 3) := by decide +kernel
theorem dX6_add_56 : decode cX6_add 56 = .ok (.return_, 1) := by decide +kernel
theorem dX6_sign_0 : decode cX6_sign 0 = .ok (.aload_n 0, 1) := by decide +kernel
theorem dX6_sign_1 : decode cX6_sign 1 = .ok (.getfield 28, 3) := by decide +kernel
theorem dX6_sign_4 : decode cX6_sign 4 = .ok (.ifCond .lt 38, 3) := by decide +kernel
theorem dX6_sign_7 : decode cX6_sign 7 = .ok (.aload_n 0, 1) := by decide +kernel
theorem dX6_sign_8 : decode cX6_sign 8 = .ok (.getfield 28, 3) := by decide +kernel
theorem dX6_sign_11 : decode cX6_sign 11 = .ok (.aload_n 0, 1) := by decide +kernel
theorem dX6_sign_12 : decode cX6_sign 12 = .ok (.getfield 24, 3) := by decide +kernel
theorem dX6_sign_15 : decode cX6_sign 15 = .ok (.if_icmp .ge 27, 3) := by decide +kernel
theorem dX6_sign_18 : decode cX6_sign 18 = .ok (.aload_n 0, 1) := by decide +kernel
theorem dX6_sign_19 : decode cX6_sign 19 = .ok (.getfield 28, 3) := by decide +kernel
theorem dX6_sign_22 : decode cX6_sign 22 = .ok (.aload_n 0, 1) := by decide +kernel
theorem dX6_sign_23 : decode cX6_sign 23 = .ok (.getfield 11, 3) := by decide +kernel
theorem dX6_sign_26 : decode cX6_sign 26 = .ok (.arraylength, 1) := by decide +kernel
theorem dX6_sign_27 : decode cX6_sign 27 = .ok (.if_icmp .ge 15, 3) := by decide +kernel
theorem dX6_sign_30 : decode cX6_sign 30 = .ok (.aload_n 0, 1) := by decide +kernel
theorem dX6_sign_31 : decode cX6_sign 31 = .ok (.getfield 11, 3) := by decide +kernel
theorem dX6_sign_34 : decode cX6_sign 34 = .ok (.aload_n 0, 1) := by decide +kernel
theorem dX6_sign_35 : decode cX6_sign 35 = .ok (.getfield 28, 3) := by decide +kernel
theorem dX6_sign_38 : decode cX6_sign 38 = .ok (.aaload, 1) := by decide +kernel
theorem dX6_sign_39 : decode cX6_sign 39 = .ok (.goto 4, 3) := by decide +kernel
theorem dX6_sign_42 : decode cX6_sign 42 = .ok (.aconst_null, 1) := by decide +kernel
theorem dX6_sign_43 : decode cX6_sign 43 = .ok (.astore_n 1, 1) := by decide +kernel
theorem dX6_sign_44 : decode cX6_sign 44 = .ok (.aload_n 1, 1) := by decide +kernel
theorem dX6_sign_45 : decode cX6_sign 45 = .ok (.ifnonnull 9, 3) := by decide +kernel
theorem dX6_sign_48 : decode cX6_sign 48 = .ok (.getstatic 50, 3) := by decide +kernel
theorem dX6_sign_51 : decode cX6_sign 51 = .ok (.goto 4, 3) := by decide +kernel
theorem dX6_sign_54 : decode cX6_sign 54 = .ok (.aload_n 1, 1) := by decide +kernel
theorem dX6_sign_55 : decode cX6_sign 55 = .ok (.areturn, 1) := by decide +kernel
theorem dX6_start_0 : decode cX6_start 0 = .ok (.aload_n 0, 1) := by decide +kernel
theorem dX6_start_1 : decode cX6_start 1 = .ok (.getfield 28, 3) := by decide +kernel
theorem dX6_start_4 : decode cX6_start 4 = .ok (.ifCond .lt 27, 3) := by decide +kernel
theorem dX6_start_7 : decode cX6_start 7 = .ok (.aload_n 0, 1) := by decide +kernel
theorem dX6_start_8 : decode cX6_start 8 = .ok (.getfield 28, 3) := by decide +kernel
theorem dX6_start_11 : decode cX6_start 11 = .ok (.aload_n 0, 1) := by decide +kernel
theorem dX6_start_12 : decode cX6_start 12 = .ok (.getfield 17, 3) := by decide +kernel
theorem dX6_start_15 : decode cX6_start 15 = .ok (.arraylength, 1) := by decide +kernel
theorem dX6_start_16 : decode cX6_start 16 = .ok (.if_icmp .ge 15, 3) := by decide +kernel
theorem dX6_start_19 : decode cX6_start 19 = .ok (.aload_n 0, 1) := by decide +kernel
theorem dX6_start_20 : decode cX6_start 20 = .ok (.getfield 17, 3) := by decide +kernel
theorem dX6_start_23 : decode cX6_start 23 = .ok (.aload_n 0, 1) := by decide +kernel
theorem dX6_start_24 : decode cX6_start 24 = .ok (.getfield 28, 3) := by decide +kernel
theorem dX6_start_27 : decode cX6_start 27 = .ok (.iaload, 1) := by decide +kernel
theorem dX6_start_28 : decode cX6_start 28 = .ok (.goto 4, 3) := by decide +kernel
theorem dX6_start_31 : decode cX6_start 31 = .ok (.iconst 0, 1) := by decide +kernel
theorem dX6_start_32 : decode cX6_start 32 = .ok (.ireturn, 1) := by decide +kernel
set_option maxRecDepth 20000 in
theorem ggX6_number_X9_at : GoodIn wsX6_number wsX9_at := goodIn_ca (goodIn_r _ [5] (by decide +kernel) (by decide +kernel)) (goodIn_sub (fun _ h => List.mem_cons_of_mem _ (List.mem_append_right _ h)) (by decide +kernel))
set_option maxRecDepth 20000 in
theorem gX6_number_X9_at_n31 : GoodIn wsX6_number (wsX9_at) := ggX6_number_X9_at
theorem dX6_number_0 : decode cX6_number 0 = .ok (.aload_n 0, 1) := by decide +kernel
theorem dX6_number_1 : decode cX6_number 1 = .ok (.getfield 21, 3) := by decide +kernel
theorem dX6_number_4 : decode cX6_number 4 = .ok (.aload_n 0, 1) := by decide +kernel
theorem dX6_number_5 : decode cX6_number 5 = .ok (.getfield 28, 3) := by decide +kernel
theorem dX6_number_8 : decode cX6_number 8 = .ok (.invokestatic 31, 3) := by decide +kernel
theorem dX6_number_11 : decode cX6_number 11 = .ok (.ireturn, 1) := by decide +kernel
theorem dX6_mark_0 : decode cX6_mark 0 = .ok (.aload_n 0, 1) := by decide +kernel
theorem dX6_mark_1 : decode cX6_mark 1 = .ok (.getfield 28, 3) := by decide +kernel
theorem dX6_mark_4 : decode cX6_mark 4 = .ok (.ireturn, 1) := by decide +kernel
theorem dX6_goBackTo_0 : decode cX6_goBackTo 0 = .ok (.aload_n 0, 1) := by decide +kernel
theorem dX6_goBackTo_1 : decode cX6_goBackTo 1 = .ok (.iload_n 1, 1) := by decide +kernel
theorem dX6_goBackTo_2 : decode cX6_goBackTo 2 = .ok (.putfield 28, 3) := by decide +kernel
theorem dX6_goBackTo_5 : decode cX6_goBackTo 5 = .ok (.return_, 1) := by decide +kernel
theorem dX6_goOn_0 : decode cX6_goOn 0 = .ok (.aload_n 0, 1) := by decide +kernel
theorem dX6_goOn_1 : decode cX6_goOn 1 = .ok (.getfield 28, 3) := by decide +kernel
theorem dX6_goOn_4 : decode cX6_goOn 4 = .ok (.iconst 1, 1) := by decide +kernel
theorem dX6_goOn_5 : decode cX6_goOn 5 = .ok (.iadd, 1) := by decide +kernel
theorem dX6_goOn_6 : decode cX6_goOn 6 = .ok (.aload_n 0, 1) := by decide +kernel
theorem dX6_goOn_7 : decode cX6_goOn 7 = .ok (.getfield 24, 3) := by decide +kernel
theorem dX6_goOn_10 : decode cX6_goOn 10 = .ok (.if_icmp .ge 13, 3) := by decide +kernel
theorem dX6_goOn_13 : decode cX6_goOn 13 = .ok (.aload_n 0, 1) := by decide +kernel
theorem dX6_goOn_14 : decode cX6_goOn 14 = .ok (.dup, 1) := by decide +kernel
theorem dX6_goOn_15 : decode cX6_goOn 15 = .ok (.getfield 28, 3) := by decide +kernel
theorem dX6_goOn_18 : decode cX6_goOn 18 = .ok (.iconst 1, 1) := by decide +kernel
theorem dX6_goOn_19 : decode cX6_goOn 19 = .ok (.iadd, 1) := by decide +kernel
theorem dX6_goOn_20 : decode cX6_goOn 20 = .ok (.putfield 28, 3) := by decide +kernel
theorem dX6_goOn_23 : decode cX6_goOn 23 = .ok (.return_, 1) := by decide +kernel
theorem dX7_init_0 : decode cX7_init 0 = .ok (.aload_n 0, 1) := by decide +kernel
theorem dX7_init_1 : decode cX7_init 1 = .ok (.invokespecial 3, 3) := by decide +kernel
theorem dX7_init_4 : decode cX7_init 4 = .ok (.return_, 1) := by decide +kernel
theorem dX7_reset_0 : decode cX7_reset 0 = .ok (.aload_n 0, 1) := by decide +kernel
theorem dX7_reset_1 : decode cX7_reset 1 = .ok (.iconst (-1), 1) := by decide +kernel
theorem dX7_reset_2 : decode cX7_reset 2 = .ok (.putfield 9, 3) := by decide +kernel
theorem dX7_reset_5 : decode cX7_reset 5 = .ok (.aload_n 0, 1) := by decide +kernel
theorem dX7_reset_6 : decode cX7_reset 6 = .ok (.iconst 0, 1) := by decide +kernel
theorem dX7_reset_7 : decode cX7_reset 7 = .ok (.putfield 15, 3) := by decide +kernel
theorem dX7_reset_10 : decode cX7_reset 10 = .ok (.aload_n 0, 1) := by decide +kernel
theorem dX7_reset_11 : decode cX7_reset 11 = .ok (.iconst 1, 1) := by decide +kernel
theorem dX7_reset_12 : decode cX7_reset 12 = .ok (.putfield 18, 3) := by decide +kernel
theorem dX7_reset_15 : decode cX7_reset 15 = .ok (.aload_n 0, 1) := by decide +kernel
theorem dX7_reset_16 : decode cX7_reset 16 = .ok (.iconst 0, 1) := by decide +kernel
theorem dX7_reset_17 : decode cX7_reset 17 = .ok (.putfield 22, 3) := by decide +kernel
theorem dX7_reset_20 : decode cX7_reset 20 = .ok (.aload_n 0, 1) := by decide +kernel
theorem dX7_reset_21 : decode cX7_reset 21 = .ok (.iconst 0, 1) := by decide +kernel
theorem dX7_reset_22 : decode cX7_reset 22 = .ok (.putfield 25, 3) := by decide +kernel
theorem dX7_reset_25 : decode cX7_reset 25 = .ok (.aload_n 0, 1) := by decide +kernel
theorem dX7_reset_26 : decode cX7_reset 26 = .ok (.iconst 0, 1) := by decide +kernel
theorem dX7_reset_27 : decode cX7_reset 27 = .ok (.putfield 28, 3) := by decide +kernel
theorem dX7_reset_30 : decode cX7_reset 30 = .ok (.aload_n 0, 1) := by decide +kernel
theorem dX7_reset_31 : decode cX7_reset 31 = .ok (.iconst 0, 1) := by decide +kernel
theorem dX7_reset_32 : decode cX7_reset 32 = .ok (.putfield 31, 3) := by decide +kernel
theorem dX7_reset_35 : decode cX7_reset 35 = .ok (.aload_n 0, 1) := by decide +kernel
theorem dX7_reset_36 : decode cX7_reset 36 = .ok (.iconst 0, 1) := by decide +kernel
theorem dX7_reset_37 : decode cX7_reset 37 = .ok (.putfield 34, 3) := by decide +kernel
theorem dX7_reset_40 : decode cX7_reset 40 = .ok (.aload_n 0, 1) := by decide +kernel
theorem dX7_reset_41 : decode cX7_reset 41 = .ok (.iconst 0, 1) := by decide +kernel
theorem dX7_reset_42 : decode cX7_reset 42 = .ok (.putfield 37, 3) := by decide +kernel
theorem dX7_reset_45 : decode cX7_reset 45 = .ok (.return_, 1) := by decide +kernel
theorem dX7_copyFrom_0 : decode cX7_copyFrom 0 = .ok (.aload_n 0, 1) := by decide +kernel
theorem dX7_copyFrom_1 : decode cX7_copyFrom 1 = .ok (.aload_n 1, 1) := by decide +kernel
theorem dX7_copyFrom_2 : decode cX7_copyFrom 2 = .ok (.getfield 9, 3) := by decide +kernel
theorem dX7_copyFrom_5 : decode cX7_copyFrom 5 = .ok (.putfield 9, 3) := by decide +kernel
theorem dX7_copyFrom_8 : decode cX7_copyFrom 8 = .ok (.aload_n 0, 1) := by decide +kernel
theorem dX7_copyFrom_9 : decode cX7_copyFrom 9 = .ok (.aload_n 1, 1) := by decide +kernel
theorem dX7_copyFrom_10 : decode cX7_copyFrom 10 = .ok (.getfield 15, 3) := by decide +kernel
theorem dX7_copyFrom_13 : decode cX7_copyFrom 13 = .ok (.putfield 15, 3) := by decide +kernel
theorem dX7_copyFrom_16 : decode cX7_copyFrom 16 = .ok (.aload_n 0, 1) := by decide +kernel
theorem dX7_copyFrom_17 : decode cX7_copyFrom 17 = .ok (.aload_n 1, 1) := by decide +kernel
theorem dX7_copyFrom_18 : decode cX7_copyFrom 18 = .ok (.getfield 18, 3) := by decide +kernel
theorem dX7_copyFrom_21 : decode cX7_copyFrom 21 = .ok (.putfield 18, 3) := by decide +kernel
theorem dX7_copyFrom_24 : decode cX7_copyFrom 24 = .ok (.aload_n 0, 1) := by decide +kernel
theorem dX7_copyFrom_25 : decode cX7_copyFrom 25 = .ok (.aload_n 1, 1) := by decide +kernel
theorem dX7_copyFrom_26 : decode cX7_copyFrom 26 = .ok (.getfield 22, 3) := by decide +kernel
theorem dX7_copyFrom_29 : decode cX7_copyFrom 29 = .ok (.putfield 22, 3) := by decide +kernel
theorem dX7_copyFrom_32 : decode cX7_copyFrom 32 = .ok (.aload_n 0, 1) := by decide +kernel
theorem dX7_copyFrom_33 : decode cX7_copyFrom 33 = .ok (.aload_n 1, 1) := by decide +kernel
theorem dX7_copyFrom_34 : decode cX7_copyFrom 34 = .ok (.getfield 25, 3) := by decide +kernel
theorem dX7_copyFrom_37 : decode cX7_copyFrom 37 = .ok (.putfield 25, 3) := by decide +kernel
theorem dX7_copyFrom_40 : decode cX7_copyFrom 40 = .ok (.aload_n 0, 1) := by decide +kernel
theorem dX7_copyFrom_41 : decode cX7_copyFrom 41 = .ok (.aload_n 1, 1) := by decide +kernel
theorem dX7_copyFrom_42 : decode cX7_copyFrom 42 = .ok (.getfield 28, 3) := by decide +kernel
theorem dX7_copyFrom_45 : decode cX7_copyFrom 45 = .ok (.putfield 28, 3) := by decide +kernel
theorem dX7_copyFrom_48 : decode cX7_copyFrom 48 = .ok (.aload_n 0, 1) := by decide +kernel
theorem dX7_copyFrom_49 : decode cX7_copyFrom 49 = .ok (.aload_n 1, 1) := by decide +kernel
theorem dX7_copyFrom_50 : decode cX7_copyFrom 50 = .ok (.getfield 31, 3) := by decide +kernel
theorem dX7_copyFrom_53 : decode cX7_copyFrom 53 = .ok (.putfield 31, 3) := by decide +kernel
theorem dX7_copyFrom_56 : decode cX7_copyFrom 56 = .ok (.aload_n 0, 1) := by decide +kernel
theorem dX7_copyFrom_57 : decode cX7_copyFrom 57 = .ok (.aload_n 1, 1) := by decide +kernel
theorem dX7_copyFrom_58 : decode cX7_copyFrom 58 = .ok (.getfield 34, 3) := by decide +kernel
theorem dX7_copyFrom_61 : decode cX7_copyFrom 61 = .ok (.putfield 34, 3) := by decide +kernel
theorem dX7_copyFrom_64 : decode cX7_copyFrom 64 = .ok (.aload_n 0, 1) := by decide +kernel
theorem dX7_copyFrom_65 : decode cX7_copyFrom 65 = .ok (.aload_n 1, 1) := by decide +kernel
theorem dX7_copyFrom_66 : decode cX7_copyFrom 66 = .ok (.getfield 37, 3) := by decide +kernel
theorem dX7_copyFrom_69 : decode cX7_copyFrom 69 = .ok (.putfield 37, 3) := by decide +kernel
theorem dX7_copyFrom_72 : decode cX7_copyFrom 72 = .ok (.return_, 1) := by decide +kernel
theorem dX7_turnBack_0 : decode cX7_turnBack 0 = .ok (.aload_n 0, 1) := by decide +kernel
theorem dX7_turnBack_1 : decode cX7_turnBack 1 = .ok (.aload_n 0, 1) := by decide +kernel
theorem dX7_turnBack_2 : decode cX7_turnBack 2 = .ok (.getfield 18, 3) := by decide +kernel
theorem dX7_turnBack_5 : decode cX7_turnBack 5 = .ok (.ifCond .ne 7, 3) := by decide +kernel
theorem dX7_turnBack_8 : decode cX7_turnBack 8 = .ok (.iconst 1, 1) := by decide +kernel
theorem dX7_turnBack_9 : decode cX7_turnBack 9 = .ok (.goto 4, 3) := by decide +kernel
theorem dX7_turnBack_12 : decode cX7_turnBack 12 = .ok (.iconst 0, 1) := by decide +kernel
theorem dX7_turnBack_13 : decode cX7_turnBack 13 = .ok (.putfield 18, 3) := by decide +kernel
theorem dX7_turnBack_16 : decode cX7_turnBack 16 = .ok (.aload_n 0, 1) := by decide +kernel
theorem dX7_turnBack_17 : decode cX7_turnBack 17 = .ok (.dup, 1) := by decide +kernel
theorem dX7_turnBack_18 : decode cX7_turnBack 18 = .ok (.getfield 34, 3) := by decide +kernel
theorem dX7_turnBack_21 : decode cX7_turnBack 21 = .ok (.iconst 1, 1) := by decide +kernel
theorem dX7_turnBack_22 : decode cX7_turnBack 22 = .ok (.iadd, 1) := by decide +kernel
theorem dX7_turnBack_23 : decode cX7_turnBack 23 = .ok (.putfield 34, 3) := by decide +kernel
theorem dX7_turnBack_26 : decode cX7_turnBack 26 = .ok (.return_, 1) := by decide +kernel
theorem dX7_countStep_0 : decode cX7_countStep 0 = .ok (.aload_n 0, 1) := by decide +kernel
theorem dX7_countStep_1 : decode cX7_countStep 1 = .ok (.dup, 1) := by decide +kernel
theorem dX7_countStep_2 : decode cX7_countStep 2 = .ok (.getfield 28, 3) := by decide +kernel
theorem dX7_countStep_5 : decode cX7_countStep 5 = .ok (.iconst 1, 1) := by decide +kernel
theorem dX7_countStep_6 : decode cX7_countStep 6 = .ok (.iadd, 1) := by decide +kernel
theorem dX7_countStep_7 : decode cX7_countStep 7 = .ok (.putfield 28, 3) := by decide +kernel
theorem dX7_countStep_10 : decode cX7_countStep 10 = .ok (.aload_n 0, 1) := by decide +kernel
theorem dX7_countStep_11 : decode cX7_countStep 11 = .ok (.dup, 1) := by decide +kernel
theorem dX7_countStep_12 : decode cX7_countStep 12 = .ok (.getfield 31, 3) := by decide +kernel
theorem dX7_countStep_15 : decode cX7_countStep 15 = .ok (.iconst 1, 1) := by decide +kernel
theorem dX7_countStep_16 : decode cX7_countStep 16 = .ok (.iadd, 1) := by decide +kernel
theorem dX7_countStep_17 : decode cX7_countStep 17 = .ok (.putfield 31, 3) := by decide +kernel
theorem dX7_countStep_20 : decode cX7_countStep 20 = .ok (.aload_n 0, 1) := by decide +kernel
theorem dX7_countStep_21 : decode cX7_countStep 21 = .ok (.dup, 1) := by decide +kernel
theorem dX7_countStep_22 : decode cX7_countStep 22 = .ok (.getfield 25, 3) := by decide +kernel
theorem dX7_countStep_25 : decode cX7_countStep 25 = .ok (.iconst 1, 1) := by decide +kernel
theorem dX7_countStep_26 : decode cX7_countStep 26 = .ok (.iadd, 1) := by decide +kernel
theorem dX7_countStep_27 : decode cX7_countStep 27 = .ok (.putfield 25, 3) := by decide +kernel
theorem dX7_countStep_30 : decode cX7_countStep 30 = .ok (.return_, 1) := by decide +kernel
theorem dX7_pause_0 : decode cX7_pause 0 = .ok (.aload_n 0, 1) := by decide +kernel
theorem dX7_pause_1 : decode cX7_pause 1 = .ok (.iconst 1, 1) := by decide +kernel
theorem dX7_pause_2 : decode cX7_pause 2 = .ok (.putfield 22, 3) := by decide +kernel
theorem dX7_pause_5 : decode cX7_pause 5 = .ok (.aload_n 0, 1) := by decide +kernel
theorem dX7_pause_6 : decode cX7_pause 6 = .ok (.iconst 0, 1) := by decide +kernel
theorem dX7_pause_7 : decode cX7_pause 7 = .ok (.putfield 25, 3) := by decide +kernel
theorem dX7_pause_10 : decode cX7_pause 10 = .ok (.return_, 1) := by decide +kernel
theorem dX7_fall_0 : decode cX7_fall 0 = .ok (.aload_n 0, 1) := by decide +kernel
theorem dX7_fall_1 : decode cX7_fall 1 = .ok (.dup, 1) := by decide +kernel
theorem dX7_fall_2 : decode cX7_fall 2 = .ok (.getfield 37, 3) := by decide +kernel
theorem dX7_fall_5 : decode cX7_fall 5 = .ok (.iconst 1, 1) := by decide +kernel
theorem dX7_fall_6 : decode cX7_fall 6 = .ok (.iadd, 1) := by decide +kernel
theorem dX7_fall_7 : decode cX7_fall 7 = .ok (.putfield 37, 3) := by decide +kernel
theorem dX7_fall_10 : decode cX7_fall 10 = .ok (.aload_n 0, 1) := by decide +kernel
theorem dX7_fall_11 : decode cX7_fall 11 = .ok (.iload_n 1, 1) := by decide +kernel
theorem dX7_fall_12 : decode cX7_fall 12 = .ok (.putfield 22, 3) := by decide +kernel
theorem dX7_fall_15 : decode cX7_fall 15 = .ok (.aload_n 0, 1) := by decide +kernel
theorem dX7_fall_16 : decode cX7_fall 16 = .ok (.iconst 0, 1) := by decide +kernel
theorem dX7_fall_17 : decode cX7_fall 17 = .ok (.putfield 25, 3) := by decide +kernel
theorem dX7_fall_20 : decode cX7_fall 20 = .ok (.return_, 1) := by decide +kernel
set_option maxRecDepth 20000 in
theorem ggX8_init_X2_init : GoodIn wsX8_init wsX2_init := goodIn_r _ [23, 24, 2, 3, 16, 25, 26, 27, 28, 37, 38, 39, 40, 41, 42, 43, 44, 45, 46, 47, 48, 49] (by decide +kernel) (by decide +kernel)
set_option maxRecDepth 20000 in
theorem gX8_init_X2_init_n11 : GoodIn wsX8_init (wsX2_init) := ggX8_init_X2_init
set_option maxRecDepth 20000 in
theorem ggX8_init_X7_init : GoodIn wsX8_init wsX7_init := goodIn_r _ [30, 31, 2, 3] (by decide +kernel) (by decide +kernel)
set_option maxRecDepth 20000 in
theorem gX8_init_X7_init_n20 : GoodIn wsX8_init (wsX7_init) := ggX8_init_X7_init
set_option maxRecDepth 20000 in
theorem ggX8_init_X3_init : GoodIn wsX8_init wsX3_init := goodIn_r _ [33, 34, 2, 3, 16, 35, 36, 73, 74, 75] (by decide +kernel) (by decide +kernel)
set_option maxRecDepth 20000 in
theorem gX8_init_X3_init_n27 : GoodIn wsX8_init (wsX3_init) := ggX8_init_X3_init
theorem dX8_init_0 : decode cX8_init 0 = .ok (.aload_n 0, 1) := by decide +kernel
theorem dX8_init_1 : decode cX8_init 1 = .ok (.invokespecial 3, 3) := by decide +kernel
theorem dX8_init_4 : decode cX8_init 4 = .ok (.aload_n 0, 1) := by decide +kernel
theorem dX8_init_5 : decode cX8_init 5 = .ok (.new 9, 3) := by decide +kernel
theorem dX8_init_8 : decode cX8_init 8 = .ok (.dup, 1) := by decide +kernel
theorem dX8_init_9 : decode cX8_init 9 = .ok (.invokespecial 11, 3) := by decide +kernel
theorem dX8_init_12 : decode cX8_init 12 = .ok (.putfield 12, 3) := by decide +kernel
theorem dX8_init_15 : decode cX8_init 15 = .ok (.aload_n 0, 1) := by decide +kernel
theorem dX8_init_16 : decode cX8_init 16 = .ok (.new 18, 3) := by decide +kernel
theorem dX8_init_19 : decode cX8_init 19 = .ok (.dup, 1) := by decide +kernel
theorem dX8_init_20 : decode cX8_init 20 = .ok (.invokespecial 20, 3) := by decide +kernel
theorem dX8_init_23 : decode cX8_init 23 = .ok (.putfield 21, 3) := by decide +kernel
theorem dX8_init_26 : decode cX8_init 26 = .ok (.aload_n 0, 1) := by decide +kernel
theorem dX8_init_27 : decode cX8_init 27 = .ok (.new 25, 3) := by decide +kernel
theorem dX8_init_30 : decode cX8_init 30 = .ok (.dup, 1) := by decide +kernel
theorem dX8_init_31 : decode cX8_init 31 = .ok (.invokespecial 27, 3) := by decide +kernel
theorem dX8_init_34 : decode cX8_init 34 = .ok (.putfield 28, 3) := by decide +kernel
theorem dX8_init_37 : decode cX8_init 37 = .ok (.aload_n 0, 1) := by decide +kernel
theorem dX8_init_38 : decode cX8_init 38 = .ok (.bipush 10, 2) := by decide +kernel
theorem dX8_init_40 : decode cX8_init 40 = .ok (.newarray .int, 2) := by decide +kernel
theorem dX8_init_42 : decode cX8_init 42 = .ok (.putfield 32, 3) := by decide +kernel
theorem dX8_init_45 : decode cX8_init 45 = .ok (.aload_n 0, 1) := by decide +kernel
theorem dX8_init_46 : decode cX8_init 46 = .ok (.bipush 80, 2) := by decide +kernel
theorem dX8_init_48 : decode cX8_init 48 = .ok (.newarray .int, 2) := by decide +kernel
theorem dX8_init_50 : decode cX8_init 50 = .ok (.putfield 36, 3) := by decide +kernel
theorem dX8_init_53 : decode cX8_init 53 = .ok (.aload_n 0, 1) := by decide +kernel
theorem dX8_init_54 : decode cX8_init 54 = .ok (.bipush 80, 2) := by decide +kernel
theorem dX8_init_56 : decode cX8_init 56 = .ok (.newarray .int, 2) := by decide +kernel
theorem dX8_init_58 : decode cX8_init 58 = .ok (.putfield 39, 3) := by decide +kernel
theorem dX8_init_61 : decode cX8_init 61 = .ok (.aload_n 0, 1) := by decide +kernel
theorem dX8_init_62 : decode cX8_init 62 = .ok (.bipush 80, 2) := by decide +kernel
theorem dX8_init_64 : decode cX8_init 64 = .ok (.newarray .int, 2) := by decide +kernel
theorem dX8_init_66 : decode cX8_init 66 = .ok (.putfield 42, 3) := by decide +kernel
theorem dX8_init_69 : decode cX8_init 69 = .ok (.aload_n 0, 1) := by decide +kernel
theorem dX8_init_70 : decode cX8_init 70 = .ok (.bipush 80, 2) := by decide +kernel
theorem dX8_init_72 : decode cX8_init 72 = .ok (.newarray .int, 2) := by decide +kernel
theorem dX8_init_74 : decode cX8_init 74 = .ok (.putfield 45, 3) := by decide +kernel
theorem dX8_init_77 : decode cX8_init 77 = .ok (.return_, 1) := by decide +kernel
set_option maxRecDepth 20000 in
theorem ggX8_reset_X2_reset : GoodIn wsX8_reset wsX2_reset := goodIn_r _ [19, 20, 21, 22, 23, 24, 25, 26, 27, 28, 29, 30, 31, 32, 33, 69, 70, 71, 72, 73, 74, 75, 76, 77, 78, 79, 80, 81] (by decide +kernel) (by decide +kernel)
set_option maxRecDepth 20000 in
theorem gX8_reset_X2_reset : GoodIn wsX8_reset (wsV RX8 48 RX2 yX2_reset wsX2_reset) := goodIn_app (goodIn_of _ (by decide +kernel)) ggX8_reset_X2_reset
set_option maxRecDepth 20000 in
theorem ggX8_reset_X7_reset : GoodIn wsX8_reset wsX7_reset := goodIn_r _ [38, 39, 40, 41, 42, 43, 44, 45, 46, 47, 82, 83, 84, 85, 86, 87, 88, 89, 90] (by decide +kernel) (by decide +kernel)
set_option maxRecDepth 20000 in
theorem gX8_reset_X7_reset : GoodIn wsX8_reset (wsV RX8 51 RX7 yX7_reset wsX7_reset) := goodIn_app (goodIn_of _ (by decide +kernel)) ggX8_reset_X7_reset
set_option maxRecDepth 20000 in
theorem ggX8_reset_X3_reset : GoodIn wsX8_reset wsX3_reset := goodIn_r _ [52, 53, 91, 92, 93] (by decide +kernel) (by decide +kernel)
set_option maxRecDepth 20000 in
theorem gX8_reset_X3_reset : GoodIn wsX8_reset (wsV RX8 52 RX3 yX3_reset wsX3_reset) := goodIn_app (goodIn_of _ (by decide +kernel)) ggX8_reset_X3_reset
set_option maxRecDepth 20000 in
theorem ggX8_reset_J7_fill_53178 : GoodIn wsX8_reset wsJ7_fill_53178 := goodIn_r _ [33] (by decide +kernel) (by decide +kernel)
set_option maxRecDepth 20000 in
theorem gX8_reset_J7_fill_53178 : GoodIn wsX8_reset (va_wsS RX8 53 yJ7_fill_53178 wsJ7_fill_53178) := goodIn_app (goodIn_of _ (by decide +kernel)) ggX8_reset_J7_fill_53178
theorem dX8_reset_0 : decode cX8_reset 0 = .ok (.aload_n 0, 1) := by decide +kernel
theorem dX8_reset_1 : decode cX8_reset 1 = .ok (.getfield 12, 3) := by decide +kernel
theorem dX8_reset_4 : decode cX8_reset 4 = .ok (.invokevirtual 48, 3) := by decide +kernel
theorem dX8_reset_7 : decode cX8_reset 7 = .ok (.aload_n 0, 1) := by decide +kernel
theorem dX8_reset_8 : decode cX8_reset 8 = .ok (.getfield 21, 3) := by decide +kernel
theorem dX8_reset_11 : decode cX8_reset 11 = .ok (.invokevirtual 51, 3) := by decide +kernel
theorem dX8_reset_14 : decode cX8_reset 14 = .ok (.aload_n 0, 1) := by decide +kernel
theorem dX8_reset_15 : decode cX8_reset 15 = .ok (.getfield 28, 3) := by decide +kernel
theorem dX8_reset_18 : decode cX8_reset 18 = .ok (.invokevirtual 52, 3) := by decide +kernel
theorem dX8_reset_21 : decode cX8_reset 21 = .ok (.aload_n 0, 1) := by decide +kernel
theorem dX8_reset_22 : decode cX8_reset 22 = .ok (.getfield 32, 3) := by decide +kernel
theorem dX8_reset_25 : decode cX8_reset 25 = .ok (.iconst 0, 1) := by decide +kernel
theorem dX8_reset_26 : decode cX8_reset 26 = .ok (.invokestatic 53, 3) := by decide +kernel
theorem dX8_reset_29 : decode cX8_reset 29 = .ok (.aload_n 0, 1) := by decide +kernel
theorem dX8_reset_30 : decode cX8_reset 30 = .ok (.getfield 36, 3) := by decide +kernel
theorem dX8_reset_33 : decode cX8_reset 33 = .ok (.iconst 0, 1) := by decide +kernel
theorem dX8_reset_34 : decode cX8_reset 34 = .ok (.invokestatic 53, 3) := by decide +kernel
theorem dX8_reset_37 : decode cX8_reset 37 = .ok (.aload_n 0, 1) := by decide +kernel
theorem dX8_reset_38 : decode cX8_reset 38 = .ok (.getfield 39, 3) := by decide +kernel
theorem dX8_reset_41 : decode cX8_reset 41 = .ok (.iconst 0, 1) := by decide +kernel
theorem dX8_reset_42 : decode cX8_reset 42 = .ok (.invokestatic 53, 3) := by decide +kernel
theorem dX8_reset_45 : decode cX8_reset 45 = .ok (.aload_n 0, 1) := by decide +kernel
theorem dX8_reset_46 : decode cX8_reset 46 = .ok (.getfield 42, 3) := by decide +kernel
theorem dX8_reset_49 : decode cX8_reset 49 = .ok (.iconst 0, 1) := by decide +kernel
theorem dX8_reset_50 : decode cX8_reset 50 = .ok (.invokestatic 53, 3) := by decide +kernel
theorem dX8_reset_53 : decode cX8_reset 53 = .ok (.aload_n 0, 1) := by decide +kernel
theorem dX8_reset_54 : decode cX8_reset 54 = .ok (.getfield 45, 3) := by decide +kernel
theorem dX8_reset_57 : decode cX8_reset 57 = .ok (.iconst 0, 1) := by decide +kernel
theorem dX8_reset_58 : decode cX8_reset 58 = .ok (.invokestatic 53, 3) := by decide +kernel
theorem dX8_reset_61 : decode cX8_reset 61 = .ok (.aload_n 0, 1) := by decide +kernel
theorem dX8_reset_62 : decode cX8_reset 62 = .ok (.iconst 1, 1) := by decide +kernel
theorem dX8_reset_63 : decode cX8_reset 63 = .ok (.putfield 59, 3) := by decide +kernel
theorem dX8_reset_66 : decode cX8_reset 66 = .ok (.aload_n 0, 1) := by decide +kernel
theorem dX8_reset_67 : decode cX8_reset 67 = .ok (.bipush 15, 2) := by decide +kernel
theorem dX8_reset_69 : decode cX8_reset 69 = .ok (.putfield 63, 3) := by decide +kernel
theorem dX8_reset_72 : decode cX8_reset 72 = .ok (.aload_n 0, 1) := by decide +kernel
theorem dX8_reset_73 : decode cX8_reset 73 = .ok (.iconst 0, 1) := by decide +kernel
theorem dX8_reset_74 : decode cX8_reset 74 = .ok (.putfield 66, 3) := by decide +kernel
theorem dX8_reset_77 : decode cX8_reset 77 = .ok (.aload_n 0, 1) := by decide +kernel
theorem dX8_reset_78 : decode cX8_reset 78 = .ok (.iconst 0, 1) := by decide +kernel
theorem dX8_reset_79 : decode cX8_reset 79 = .ok (.putfield 69, 3) := by decide +kernel
theorem dX8_reset_82 : decode cX8_reset 82 = .ok (.aload_n 0, 1) := by decide +kernel
theorem dX8_reset_83 : decode cX8_reset 83 = .ok (.iconst (-1), 1) := by decide +kernel
theorem dX8_reset_84 : decode cX8_reset 84 = .ok (.putfield 72, 3) := by decide +kernel
theorem dX8_reset_87 : decode cX8_reset 87 = .ok (.aload_n 0, 1) := by decide +kernel
theorem dX8_reset_88 : decode cX8_reset 88 = .ok (.iconst 0, 1) := by decide +kernel
theorem dX8_reset_89 : decode cX8_reset 89 = .ok (.putfield 75, 3) := by decide +kernel
theorem dX8_reset_92 : decode cX8_reset 92 = .ok (.return_, 1) := by decide +kernel
set_option maxRecDepth 20000 in
theorem ggX8_copyFrom_X2_copyFrom : GoodIn wsX8_copyFrom wsX2_copyFrom := goodIn_r _ [19, 20, 21, 22, 23, 24, 25, 26, 27, 28, 29, 30, 31, 32, 33, 34, 35, 36, 37, 38, 39, 40, 41, 42, 43, 80, 81, 82, 83, 84, 85, 86, 87, 88, 89, 90, 91, 92] (by decide +kernel) (by decide +kernel)
set_option maxRecDepth 20000 in
theorem gX8_copyFrom_X2_copyFrom : GoodIn wsX8_copyFrom (wsV RX8 78 RX2 yX2_copyFrom wsX2_copyFrom) := goodIn_app (goodIn_of _ (by decide +kernel)) ggX8_copyFrom_X2_copyFrom
set_option maxRecDepth 20000 in
theorem ggX8_copyFrom_X7_copyFrom : GoodIn wsX8_copyFrom wsX7_copyFrom := goodIn_r _ [48, 49, 50, 51, 52, 53, 54, 55, 56, 57, 93, 94, 95, 96, 97, 98, 99, 100, 101] (by decide +kernel) (by decide +kernel)
set_option maxRecDepth 20000 in
theorem gX8_copyFrom_X7_copyFrom : GoodIn wsX8_copyFrom (wsV RX8 82 RX7 yX7_copyFrom wsX7_copyFrom) := goodIn_app (goodIn_of _ (by decide +kernel)) ggX8_copyFrom_X7_copyFrom
set_option maxRecDepth 20000 in
theorem ggX8_copyFrom_X3_copyFrom : GoodIn wsX8_copyFrom wsX3_copyFrom := goodIn_r _ [62, 63, 64, 65, 33, 34, 35, 36, 37, 38, 39, 40, 41, 42, 43, 102, 103, 104] (by decide +kernel) (by decide +kernel)
set_option maxRecDepth 20000 in
theorem gX8_copyFrom_X3_copyFrom : GoodIn wsX8_copyFrom (wsV RX8 85 RX3 yX3_copyFrom wsX3_copyFrom) := goodIn_app (goodIn_of _ (by decide +kernel)) ggX8_copyFrom_X3_copyFrom
set_option maxRecDepth 20000 in
theorem ggX8_copyFrom_X9_copy : GoodIn wsX8_copyFrom wsX9_copy := goodIn_r _ [35, 36, 37, 38, 39, 40, 41, 42, 43] (by decide +kernel) (by decide +kernel)
set_option maxRecDepth 20000 in
theorem gX8_copyFrom_X9_copy_n88 : GoodIn wsX8_copyFrom (wsX9_copy) := ggX8_copyFrom_X9_copy
theorem dX8_copyFrom_0 : decode cX8_copyFrom 0 = .ok (.aload_n 0, 1) := by decide +kernel
theorem dX8_copyFrom_1 : decode cX8_copyFrom 1 = .ok (.getfield 12, 3) := by decide +kernel
theorem dX8_copyFrom_4 : decode cX8_copyFrom 4 = .ok (.aload_n 1, 1) := by decide +kernel
theorem dX8_copyFrom_5 : decode cX8_copyFrom 5 = .ok (.getfield 12, 3) := by decide +kernel
theorem dX8_copyFrom_8 : decode cX8_copyFrom 8 = .ok (.invokevirtual 78, 3) := by decide +kernel
theorem dX8_copyFrom_11 : decode cX8_copyFrom 11 = .ok (.aload_n 0, 1) := by decide +kernel
theorem dX8_copyFrom_12 : decode cX8_copyFrom 12 = .ok (.getfield 21, 3) := by decide +kernel
theorem dX8_copyFrom_15 : decode cX8_copyFrom 15 = .ok (.aload_n 1, 1) := by decide +kernel
theorem dX8_copyFrom_16 : decode cX8_copyFrom 16 = .ok (.getfield 21, 3) := by decide +kernel
theorem dX8_copyFrom_19 : decode cX8_copyFrom 19 = .ok (.invokevirtual 82, 3) := by decide +kernel
theorem dX8_copyFrom_22 : decode cX8_copyFrom 22 = .ok (.aload_n 0, 1) := by decide +kernel
theorem dX8_copyFrom_23 : decode cX8_copyFrom 23 = .ok (.getfield 28, 3) := by decide +kernel
theorem dX8_copyFrom_26 : decode cX8_copyFrom 26 = .ok (.aload_n 1, 1) := by decide +kernel
theorem dX8_copyFrom_27 : decode cX8_copyFrom 27 = .ok (.getfield 28, 3) := by decide +kernel
theorem dX8_copyFrom_30 : decode cX8_copyFrom 30 = .ok (.invokevirtual 85, 3) := by decide +kernel
theorem dX8_copyFrom_33 : decode cX8_copyFrom 33 = .ok (.aload_n 1, 1) := by decide +kernel
theorem dX8_copyFrom_34 : decode cX8_copyFrom 34 = .ok (.getfield 32, 3) := by decide +kernel
theorem dX8_copyFrom_37 : decode cX8_copyFrom 37 = .ok (.aload_n 0, 1) := by decide +kernel
theorem dX8_copyFrom_38 : decode cX8_copyFrom 38 = .ok (.getfield 32, 3) := by decide +kernel
theorem dX8_copyFrom_41 : decode cX8_copyFrom 41 = .ok (.invokestatic 88, 3) := by decide +kernel
theorem dX8_copyFrom_44 : decode cX8_copyFrom 44 = .ok (.aload_n 1, 1) := by decide +kernel
theorem dX8_copyFrom_45 : decode cX8_copyFrom 45 = .ok (.getfield 36, 3) := by decide +kernel
theorem dX8_copyFrom_48 : decode cX8_copyFrom 48 = .ok (.aload_n 0, 1) := by decide +kernel
theorem dX8_copyFrom_49 : decode cX8_copyFrom 49 = .ok (.getfield 36, 3) := by decide +kernel
theorem dX8_copyFrom_52 : decode cX8_copyFrom 52 = .ok (.invokestatic 88, 3) := by decide +kernel
theorem dX8_copyFrom_55 : decode cX8_copyFrom 55 = .ok (.aload_n 1, 1) := by decide +kernel
theorem dX8_copyFrom_56 : decode cX8_copyFrom 56 = .ok (.getfield 39, 3) := by decide +kernel
theorem dX8_copyFrom_59 : decode cX8_copyFrom 59 = .ok (.aload_n 0, 1) := by decide +kernel
theorem dX8_copyFrom_60 : decode cX8_copyFrom 60 = .ok (.getfield 39, 3) := by decide +kernel
theorem dX8_copyFrom_63 : decode cX8_copyFrom 63 = .ok (.invokestatic 88, 3) := by decide +kernel
theorem dX8_copyFrom_66 : decode cX8_copyFrom 66 = .ok (.aload_n 1, 1) := by decide +kernel
theorem dX8_copyFrom_67 : decode cX8_copyFrom 67 = .ok (.getfield 42, 3) := by decide +kernel
theorem dX8_copyFrom_70 : decode cX8_copyFrom 70 = .ok (.aload_n 0, 1) := by decide +kernel
theorem dX8_copyFrom_71 : decode cX8_copyFrom 71 = .ok (.getfield 42, 3) := by decide +kernel
theorem dX8_copyFrom_74 : decode cX8_copyFrom 74 = .ok (.invokestatic 88, 3) := by decide +kernel
theorem dX8_copyFrom_77 : decode cX8_copyFrom 77 = .ok (.aload_n 1, 1) := by decide +kernel
theorem dX8_copyFrom_78 : decode cX8_copyFrom 78 = .ok (.getfield 45, 3) := by decide +kernel
theorem dX8_copyFrom_81 : decode cX8_copyFrom 81 = .ok (.aload_n 0, 1) := by decide +kernel
theorem dX8_copyFrom_82 : decode cX8_copyFrom 82 = .ok (.getfield 45, 3) := by decide +kernel
theorem dX8_copyFrom_85 : decode cX8_copyFrom 85 = .ok (.invokestatic 88, 3) := by decide +kernel
theorem dX8_copyFrom_88 : decode cX8_copyFrom 88 = .ok (.aload_n 0, 1) := by decide +kernel
theorem dX8_copyFrom_89 : decode cX8_copyFrom 89 = .ok (.aload_n 1, 1) := by decide +kernel
theorem dX8_copyFrom_90 : decode cX8_copyFrom 90 = .ok (.getfield 59, 3) := by decide +kernel
theorem dX8_copyFrom_93 : decode cX8_copyFrom 93 = .ok (.putfield 59, 3) := by decide +kernel
theorem dX8_copyFrom_96 : decode cX8_copyFrom 96 = .ok (.aload_n 0, 1) := by decide +kernel
theorem dX8_copyFrom_97 : decode cX8_copyFrom 97 = .ok (.aload_n 1, 1) := by decide +kernel
theorem dX8_copyFrom_98 : decode cX8_copyFrom 98 = .ok (.getfield 63, 3) := by decide +kernel
theorem dX8_copyFrom_101 : decode cX8_copyFrom 101 = .ok (.putfield 63, 3) := by decide +kernel
theorem dX8_copyFrom_104 : decode cX8_copyFrom 104 = .ok (.aload_n 0, 1) := by decide +kernel
theorem dX8_copyFrom_105 : decode cX8_copyFrom 105 = .ok (.aload_n 1, 1) := by decide +kernel
theorem dX8_copyFrom_106 : decode cX8_copyFrom 106 = .ok (.getfield 66, 3) := by decide +kernel
theorem dX8_copyFrom_109 : decode cX8_copyFrom 109 = .ok (.putfield 66, 3) := by decide +kernel
theorem dX8_copyFrom_112 : decode cX8_copyFrom 112 = .ok (.aload_n 0, 1) := by decide +kernel
theorem dX8_copyFrom_113 : decode cX8_copyFrom 113 = .ok (.aload_n 1, 1) := by decide +kernel
theorem dX8_copyFrom_114 : decode cX8_copyFrom 114 = .ok (.getfield 69, 3) := by decide +kernel
theorem dX8_copyFrom_117 : decode cX8_copyFrom 117 = .ok (.putfield 69, 3) := by decide +kernel
theorem dX8_copyFrom_120 : decode cX8_copyFrom 120 = .ok (.aload_n 0, 1) := by decide +kernel
theorem dX8_copyFrom_121 : decode cX8_copyFrom 121 = .ok (.aload_n 1, 1) := by decide +kernel
theorem dX8_copyFrom_122 : decode cX8_copyFrom 122 = .ok (.getfield 72, 3) := by decide +kernel
theorem dX8_copyFrom_125 : decode cX8_copyFrom 125 = .ok (.putfield 72, 3) := by decide +kernel
theorem dX8_copyFrom_128 : decode cX8_copyFrom 128 = .ok (.aload_n 0, 1) := by decide +kernel
theorem dX8_copyFrom_129 : decode cX8_copyFrom 129 = .ok (.aload_n 1, 1) := by decide +kernel
theorem dX8_copyFrom_130 : decode cX8_copyFrom 130 = .ok (.getfield 75, 3) := by decide +kernel
theorem dX8_copyFrom_133 : decode cX8_copyFrom 133 = .ok (.putfield 75, 3) := by decide +kernel
theorem dX8_copyFrom_136 : decode cX8_copyFrom 136 = .ok (.return_, 1) := by decide +kernel
theorem dX8_tileCount_0 : decode cX8_tileCount 0 = .ok (.aload_n 0, 1) := by decide +kernel
theorem dX8_tileCount_1 : decode cX8_tileCount 1 = .ok (.getfield 12, 3) := by decide +kernel
theorem dX8_tileCount_4 : decode cX8_tileCount 4 = .ok (.getfield 92, 3) := by decide +kernel
theorem dX8_tileCount_7 : decode cX8_tileCount 7 = .ok (.aload_n 0, 1) := by decide +kernel
theorem dX8_tileCount_8 : decode cX8_tileCount 8 = .ok (.getfield 12, 3) := by decide +kernel
theorem dX8_tileCount_11 : decode cX8_tileCount 11 = .ok (.getfield 95, 3) := by decide +kernel
theorem dX8_tileCount_14 : decode cX8_tileCount 14 = .ok (.imul, 1) := by decide +kernel
theorem dX8_tileCount_15 : decode cX8_tileCount 15 = .ok (.ireturn, 1) := by decide +kernel
theorem dX8_nightLength_0 : decode cX8_nightLength 0 = .ok (.aload_n 0, 1) := by decide +kernel
theorem dX8_nightLength_1 : decode cX8_nightLength 1 = .ok (.getfield 12, 3) := by decide +kernel
theorem dX8_nightLength_4 : decode cX8_nightLength 4 = .ok (.getfield 92, 3) := by decide +kernel
theorem dX8_nightLength_7 : decode cX8_nightLength 7 = .ok (.aload_n 0, 1) := by decide +kernel
theorem dX8_nightLength_8 : decode cX8_nightLength 8 = .ok (.getfield 12, 3) := by decide +kernel
theorem dX8_nightLength_11 : decode cX8_nightLength 11 = .ok (.getfield 98, 3) := by decide +kernel
theorem dX8_nightLength_14 : decode cX8_nightLength 14 = .ok (.imul, 1) := by decide +kernel
theorem dX8_nightLength_15 : decode cX8_nightLength 15 = .ok (.ireturn, 1) := by decide +kernel
theorem dX8_rowOf_0 : decode cX8_rowOf 0 = .ok (.aload_n 0, 1) := by decide +kernel
theorem dX8_rowOf_1 : decode cX8_rowOf 1 = .ok (.getfield 12, 3) := by decide +kernel
theorem dX8_rowOf_4 : decode cX8_rowOf 4 = .ok (.getfield 95, 3) := by decide +kernel
theorem dX8_rowOf_7 : decode cX8_rowOf 7 = .ok (.ifCond .le 15, 3) := by decide +kernel
theorem dX8_rowOf_10 : decode cX8_rowOf 10 = .ok (.iload_n 1, 1) := by decide +kernel
theorem dX8_rowOf_11 : decode cX8_rowOf 11 = .ok (.aload_n 0, 1) := by decide +kernel
theorem dX8_rowOf_12 : decode cX8_rowOf 12 = .ok (.getfield 12, 3) := by decide +kernel
theorem dX8_rowOf_15 : decode cX8_rowOf 15 = .ok (.getfield 95, 3) := by decide +kernel
theorem dX8_rowOf_18 : decode cX8_rowOf 18 = .ok (.idiv, 1) := by decide +kernel
theorem dX8_rowOf_19 : decode cX8_rowOf 19 = .ok (.goto 4, 3) := by decide +kernel
theorem dX8_rowOf_22 : decode cX8_rowOf 22 = .ok (.iconst 0, 1) := by decide +kernel
theorem dX8_rowOf_23 : decode cX8_rowOf 23 = .ok (.ireturn, 1) := by decide +kernel
theorem dX8_columnOf_0 : decode cX8_columnOf 0 = .ok (.aload_n 0, 1) := by decide +kernel
theorem dX8_columnOf_1 : decode cX8_columnOf 1 = .ok (.getfield 12, 3) := by decide +kernel
theorem dX8_columnOf_4 : decode cX8_columnOf 4 = .ok (.getfield 95, 3) := by decide +kernel
theorem dX8_columnOf_7 : decode cX8_columnOf 7 = .ok (.ifCond .le 15, 3) := by decide +kernel
theorem dX8_columnOf_10 : decode cX8_columnOf 10 = .ok (.iload_n 1, 1) := by decide +kernel
theorem dX8_columnOf_11 : decode cX8_columnOf 11 = .ok (.aload_n 0, 1) := by decide +kernel
theorem dX8_columnOf_12 : decode cX8_columnOf 12 = .ok (.getfield 12, 3) := by decide +kernel
theorem dX8_columnOf_15 : decode cX8_columnOf 15 = .ok (.getfield 95, 3) := by decide +kernel
theorem dX8_columnOf_18 : decode cX8_columnOf 18 = .ok (.irem, 1) := by decide +kernel
theorem dX8_columnOf_19 : decode cX8_columnOf 19 = .ok (.goto 4, 3) := by decide +kernel
theorem dX8_columnOf_22 : decode cX8_columnOf 22 = .ok (.iconst 0, 1) := by decide +kernel
theorem dX8_columnOf_23 : decode cX8_columnOf 23 = .ok (.ireturn, 1) := by decide +kernel
theorem dX8_neighbor_0 : decode cX8_neighbor 0 = .ok (.aload_n 0, 1) := by decide +kernel
theorem dX8_neighbor_1 : decode cX8_neighbor 1 = .ok (.getfield 12, 3) := by decide +kernel
theorem dX8_neighbor_4 : decode cX8_neighbor 4 = .ok (.getfield 95, 3) := by decide +kernel
theorem dX8_neighbor_7 : decode cX8_neighbor 7 = .ok (.istore_n 3, 1) := by decide +kernel
theorem dX8_neighbor_8 : decode cX8_neighbor 8 = .ok (.iload_n 3, 1) := by decide +kernel
theorem dX8_neighbor_9 : decode cX8_neighbor 9 = .ok (.ifCond .le 9, 3) := by decide +kernel
theorem dX8_neighbor_12 : decode cX8_neighbor 12 = .ok (.iload_n 1, 1) := by decide +kernel
theorem dX8_neighbor_13 : decode cX8_neighbor 13 = .ok (.iload_n 3, 1) := by decide +kernel
theorem dX8_neighbor_14 : decode cX8_neighbor 14 = .ok (.irem, 1) := by decide +kernel
theorem dX8_neighbor_15 : decode cX8_neighbor 15 = .ok (.goto 4, 3) := by decide +kernel
theorem dX8_neighbor_18 : decode cX8_neighbor 18 = .ok (.iconst 0, 1) := by decide +kernel
theorem dX8_neighbor_19 : decode cX8_neighbor 19 = .ok (.istore 4, 2) := by decide +kernel
theorem dX8_neighbor_21 : decode cX8_neighbor 21 = .ok (.iload_n 2, 1) := by decide +kernel
theorem dX8_neighbor_22 : decode cX8_neighbor 22 = .ok (.tableswitch 95 1 4 #[30, 43, 66, 79], 30) := by decide +kernel
theorem dX8_neighbor_52 : decode cX8_neighbor 52 = .ok (.iload_n 1, 1) := by decide +kernel
theorem dX8_neighbor_53 : decode cX8_neighbor 53 = .ok (.iload_n 3, 1) := by decide +kernel
theorem dX8_neighbor_54 : decode cX8_neighbor 54 = .ok (.if_icmp .lt 9, 3) := by decide +kernel
theorem dX8_neighbor_57 : decode cX8_neighbor 57 = .ok (.iload_n 1, 1) := by decide +kernel
theorem dX8_neighbor_58 : decode cX8_neighbor 58 = .ok (.iload_n 3, 1) := by decide +kernel
theorem dX8_neighbor_59 : decode cX8_neighbor 59 = .ok (.isub, 1) := by decide +kernel
theorem dX8_neighbor_60 : decode cX8_neighbor 60 = .ok (.goto 4, 3) := by decide +kernel
theorem dX8_neighbor_63 : decode cX8_neighbor 63 = .ok (.iconst (-1), 1) := by decide +kernel
theorem dX8_neighbor_64 : decode cX8_neighbor 64 = .ok (.ireturn, 1) := by decide +kernel
theorem dX8_neighbor_65 : decode cX8_neighbor 65 = .ok (.iload_n 1, 1) := by decide +kernel
theorem dX8_neighbor_66 : decode cX8_neighbor 66 = .ok (.iload_n 3, 1) := by decide +kernel
theorem dX8_neighbor_67 : decode cX8_neighbor 67 = .ok (.iadd, 1) := by decide +kernel
theorem dX8_neighbor_68 : decode cX8_neighbor 68 = .ok (.aload_n 0, 1) := by decide +kernel
theorem dX8_neighbor_69 : decode cX8_neighbor 69 = .ok (.getfield 12, 3) := by decide +kernel
theorem dX8_neighbor_72 : decode cX8_neighbor 72 = .ok (.getfield 92, 3) := by decide +kernel
theorem dX8_neighbor_75 : decode cX8_neighbor 75 = .ok (.iload_n 3, 1) := by decide +kernel
theorem dX8_neighbor_76 : decode cX8_neighbor 76 = .ok (.imul, 1) := by decide +kernel
theorem dX8_neighbor_77 : decode cX8_neighbor 77 = .ok (.if_icmp .ge 9, 3) := by decide +kernel
theorem dX8_neighbor_80 : decode cX8_neighbor 80 = .ok (.iload_n 1, 1) := by decide +kernel
theorem dX8_neighbor_81 : decode cX8_neighbor 81 = .ok (.iload_n 3, 1) := by decide +kernel
theorem dX8_neighbor_82 : decode cX8_neighbor 82 = .ok (.iadd, 1) := by decide +kernel
theorem dX8_neighbor_83 : decode cX8_neighbor 83 = .ok (.goto 4, 3) := by decide +kernel
theorem dX8_neighbor_86 : decode cX8_neighbor 86 = .ok (.iconst (-1), 1) := by decide +kernel
theorem dX8_neighbor_87 : decode cX8_neighbor 87 = .ok (.ireturn, 1) := by decide +kernel
theorem dX8_neighbor_88 : decode cX8_neighbor 88 = .ok (.iload 4, 2) := by decide +kernel
theorem dX8_neighbor_90 : decode cX8_neighbor 90 = .ok (.ifCond .le 9, 3) := by decide +kernel
theorem dX8_neighbor_93 : decode cX8_neighbor 93 = .ok (.iload_n 1, 1) := by decide +kernel
theorem dX8_neighbor_94 : decode cX8_neighbor 94 = .ok (.iconst 1, 1) := by decide +kernel
theorem dX8_neighbor_95 : decode cX8_neighbor 95 = .ok (.isub, 1) := by decide +kernel
theorem dX8_neighbor_96 : decode cX8_neighbor 96 = .ok (.goto 4, 3) := by decide +kernel
theorem dX8_neighbor_99 : decode cX8_neighbor 99 = .ok (.iconst (-1), 1) := by decide +kernel
theorem dX8_neighbor_100 : decode cX8_neighbor 100 = .ok (.ireturn, 1) := by decide +kernel
theorem dX8_neighbor_101 : decode cX8_neighbor 101 = .ok (.iload 4, 2) := by decide +kernel
theorem dX8_neighbor_103 : decode cX8_neighbor 103 = .ok (.iconst 1, 1) := by decide +kernel
theorem dX8_neighbor_104 : decode cX8_neighbor 104 = .ok (.iadd, 1) := by decide +kernel
theorem dX8_neighbor_105 : decode cX8_neighbor 105 = .ok (.iload_n 3, 1) := by decide +kernel
theorem dX8_neighbor_106 : decode cX8_neighbor 106 = .ok (.if_icmp .ge 9, 3) := by decide +kernel
theorem dX8_neighbor_109 : decode cX8_neighbor 109 = .ok (.iload_n 1, 1) := by decide +kernel
theorem dX8_neighbor_110 : decode cX8_neighbor 110 = .ok (.iconst 1, 1) := by decide +kernel
theorem dX8_neighbor_111 : decode cX8_neighbor 111 = .ok (.iadd, 1) := by decide +kernel
theorem dX8_neighbor_112 : decode cX8_neighbor 112 = .ok (.goto 4, 3) := by decide +kernel
theorem dX8_neighbor_115 : decode cX8_neighbor 115 = .ok (.iconst (-1), 1) := by decide +kernel
theorem dX8_neighbor_116 : decode cX8_neighbor 116 = .ok (.ireturn, 1) := by decide +kernel
theorem dX8_neighbor_117 : decode cX8_neighbor 117 = .ok (.iload_n 1, 1) := by decide +kernel
theorem dX8_neighbor_118 : decode cX8_neighbor 118 = .ok (.ireturn, 1) := by decide +kernel
theorem dX8_moonlight_0 : decode cX8_moonlight 0 = .ok (.aload_n 0, 1) := by decide +kernel
theorem dX8_moonlight_1 : decode cX8_moonlight 1 = .ok (.getfield 63, 3) := by decide +kernel
theorem dX8_moonlight_4 : decode cX8_moonlight 4 = .ok (.bipush 30, 2) := by decide +kernel
theorem dX8_moonlight_6 : decode cX8_moonlight 6 = .ok (.irem, 1) := by decide +kernel
theorem dX8_moonlight_7 : decode cX8_moonlight 7 = .ok (.istore_n 1, 1) := by decide +kernel
theorem dX8_moonlight_8 : decode cX8_moonlight 8 = .ok (.iload_n 1, 1) := by decide +kernel
theorem dX8_moonlight_9 : decode cX8_moonlight 9 = .ok (.bipush 15, 2) := by decide +kernel
theorem dX8_moonlight_11 : decode cX8_moonlight 11 = .ok (.if_icmp .gt 7, 3) := by decide +kernel
theorem dX8_moonlight_14 : decode cX8_moonlight 14 = .ok (.iload_n 1, 1) := by decide +kernel
theorem dX8_moonlight_15 : decode cX8_moonlight 15 = .ok (.goto 7, 3) := by decide +kernel
theorem dX8_moonlight_18 : decode cX8_moonlight 18 = .ok (.bipush 30, 2) := by decide +kernel
theorem dX8_moonlight_20 : decode cX8_moonlight 20 = .ok (.iload_n 1, 1) := by decide +kernel
theorem dX8_moonlight_21 : decode cX8_moonlight 21 = .ok (.isub, 1) := by decide +kernel
theorem dX8_moonlight_22 : decode cX8_moonlight 22 = .ok (.ireturn, 1) := by decide +kernel
set_option maxRecDepth 20000 in
theorem ggX8_isMoonOut_X8_moonlight : GoodIn wsX8_isMoonOut wsX8_moonlight := goodIn_r _ [7, 8, 17, 18, 19, 20, 21, 22, 23, 24, 25, 26, 27, 28, 29, 30] (by decide +kernel) (by decide +kernel)
set_option maxRecDepth 20000 in
theorem gX8_isMoonOut_X8_moonlight : GoodIn wsX8_isMoonOut (wsV RX8 101 RX8 yX8_moonlight wsX8_moonlight) := goodIn_app (goodIn_of _ (by decide +kernel)) ggX8_isMoonOut_X8_moonlight
set_option maxRecDepth 20000 in
theorem ggX8_isMoonOut_X2_isCloudy : GoodIn wsX8_isMoonOut wsX2_isCloudy := goodIn_ca (goodIn_r _ [13, 14, 15, 16, 31, 32, 33, 34, 35, 36, 37, 38, 39, 40, 41, 42, 43] (by decide +kernel) (by decide +kernel)) (goodIn_sub (fun _ h => List.mem_cons_of_mem _ (List.mem_append_right _ h)) (by decide +kernel))
set_option maxRecDepth 20000 in
theorem gX8_isMoonOut_X2_isCloudy : GoodIn wsX8_isMoonOut (wsV RX8 105 RX2 yX2_isCloudy wsX2_isCloudy) := goodIn_app (goodIn_of _ (by decide +kernel)) ggX8_isMoonOut_X2_isCloudy
theorem dX8_isMoonOut_0 : decode cX8_isMoonOut 0 = .ok (.aload_n 0, 1) := by decide +kernel
theorem dX8_isMoonOut_1 : decode cX8_isMoonOut 1 = .ok (.invokevirtual 101, 3) := by decide +kernel
theorem dX8_isMoonOut_4 : decode cX8_isMoonOut 4 = .ok (.ifCond .le 21, 3) := by decide +kernel
theorem dX8_isMoonOut_7 : decode cX8_isMoonOut 7 = .ok (.aload_n 0, 1) := by decide +kernel
theorem dX8_isMoonOut_8 : decode cX8_isMoonOut 8 = .ok (.getfield 12, 3) := by decide +kernel
theorem dX8_isMoonOut_11 : decode cX8_isMoonOut 11 = .ok (.aload_n 0, 1) := by decide +kernel
theorem dX8_isMoonOut_12 : decode cX8_isMoonOut 12 = .ok (.getfield 66, 3) := by decide +kernel
theorem dX8_isMoonOut_15 : decode cX8_isMoonOut 15 = .ok (.invokevirtual 105, 3) := by decide +kernel
theorem dX8_isMoonOut_18 : decode cX8_isMoonOut 18 = .ok (.ifCond .ne 7, 3) := by decide +kernel
theorem dX8_isMoonOut_21 : decode cX8_isMoonOut 21 = .ok (.iconst 1, 1) := by decide +kernel
theorem dX8_isMoonOut_22 : decode cX8_isMoonOut 22 = .ok (.goto 4, 3) := by decide +kernel
theorem dX8_isMoonOut_25 : decode cX8_isMoonOut 25 = .ok (.iconst 0, 1) := by decide +kernel
theorem dX8_isMoonOut_26 : decode cX8_isMoonOut 26 = .ok (.ireturn, 1) := by decide +kernel
theorem dX8_rowInMoonlight_0 : decode cX8_rowInMoonlight 0 = .ok (.aload_n 0, 1) := by decide +kernel
theorem dX8_rowInMoonlight_1 : decode cX8_rowInMoonlight 1 = .ok (.getfield 12, 3) := by decide +kernel
theorem dX8_rowInMoonlight_4 : decode cX8_rowInMoonlight 4 = .ok (.getfield 98, 3) := by decide +kernel
theorem dX8_rowInMoonlight_7 : decode cX8_rowInMoonlight 7 = .ok (.ifCond .le 18, 3) := by decide +kernel
theorem dX8_rowInMoonlight_10 : decode cX8_rowInMoonlight 10 = .ok (.aload_n 0, 1) := by decide +kernel
theorem dX8_rowInMoonlight_11 : decode cX8_rowInMoonlight 11 = .ok (.getfield 66, 3) := by decide +kernel
theorem dX8_rowInMoonlight_14 : decode cX8_rowInMoonlight 14 = .ok (.aload_n 0, 1) := by decide +kernel
theorem dX8_rowInMoonlight_15 : decode cX8_rowInMoonlight 15 = .ok (.getfield 12, 3) := by decide +kernel
theorem dX8_rowInMoonlight_18 : decode cX8_rowInMoonlight 18 = .ok (.getfield 98, 3) := by decide +kernel
theorem dX8_rowInMoonlight_21 : decode cX8_rowInMoonlight 21 = .ok (.idiv, 1) := by decide +kernel
theorem dX8_rowInMoonlight_22 : decode cX8_rowInMoonlight 22 = .ok (.goto 4, 3) := by decide +kernel
theorem dX8_rowInMoonlight_25 : decode cX8_rowInMoonlight 25 = .ok (.iconst 0, 1) := by decide +kernel
theorem dX8_rowInMoonlight_26 : decode cX8_rowInMoonlight 26 = .ok (.ireturn, 1) := by decide +kernel
set_option maxRecDepth 20000 in
theorem ggX8_isTileLit_X8_isMoonOut : GoodIn wsX8_isTileLit wsX8_isMoonOut := goodIn_ca (goodIn_r _ [5, 6, 7, 8, 9, 10, 4, 11, 12, 13, 14, 15, 16, 17, 18, 19, 20, 43, 44, 45, 46, 47, 48, 49, 50, 51, 52, 53, 54, 55, 56, 57, 58, 59, 60, 61, 62, 63, 64, 65, 66, 67, 68, 69] (by decide +kernel) (by decide +kernel)) (goodIn_sub (fun _ h => List.mem_cons_of_mem _ (List.mem_append_right _ h)) (by decide +kernel))
set_option maxRecDepth 20000 in
theorem gX8_isTileLit_X8_isMoonOut : GoodIn wsX8_isTileLit (wsV RX8 109 RX8 yX8_isMoonOut wsX8_isMoonOut) := goodIn_app (goodIn_of _ (by decide +kernel)) ggX8_isTileLit_X8_isMoonOut
set_option maxRecDepth 20000 in
theorem ggX8_isTileLit_X8_liesInMoonlight : GoodIn wsX8_isTileLit wsX8_liesInMoonlight := goodIn_ca (goodIn_r _ [24, 25, 26, 27, 28, 4, 29, 6, 30, 31, 32, 33, 34, 35, 7, 36, 37, 38, 39, 40, 41, 42, 43, 44, 45, 46, 47, 48, 49, 50, 51, 52, 53, 54, 55, 56, 57, 58, 59, 60, 61, 62, 63, 64, 65, 66, 67, 68, 69] (by decide +kernel) (by decide +kernel)) (goodIn_sub (fun _ h => List.mem_cons_of_mem _ (List.mem_append_right _ h)) (by decide +kernel))
set_option maxRecDepth 20000 in
theorem gX8_isTileLit_X8_liesInMoonlight : GoodIn wsX8_isTileLit (wsV RX8 113 RX8 yX8_liesInMoonlight wsX8_liesInMoonlight) := goodIn_app (goodIn_of _ (by decide +kernel)) ggX8_isTileLit_X8_liesInMoonlight
theorem dX8_isTileLit_0 : decode cX8_isTileLit 0 = .ok (.aload_n 0, 1) := by decide +kernel
theorem dX8_isTileLit_1 : decode cX8_isTileLit 1 = .ok (.invokevirtual 109, 3) := by decide +kernel
theorem dX8_isTileLit_4 : decode cX8_isTileLit 4 = .ok (.ifCond .eq 15, 3) := by decide +kernel
theorem dX8_isTileLit_7 : decode cX8_isTileLit 7 = .ok (.aload_n 0, 1) := by decide +kernel
theorem dX8_isTileLit_8 : decode cX8_isTileLit 8 = .ok (.iload_n 1, 1) := by decide +kernel
theorem dX8_isTileLit_9 : decode cX8_isTileLit 9 = .ok (.invokevirtual 113, 3) := by decide +kernel
theorem dX8_isTileLit_12 : decode cX8_isTileLit 12 = .ok (.ifCond .eq 7, 3) := by decide +kernel
theorem dX8_isTileLit_15 : decode cX8_isTileLit 15 = .ok (.iconst 1, 1) := by decide +kernel
theorem dX8_isTileLit_16 : decode cX8_isTileLit 16 = .ok (.goto 4, 3) := by decide +kernel
theorem dX8_isTileLit_19 : decode cX8_isTileLit 19 = .ok (.iconst 0, 1) := by decide +kernel
theorem dX8_isTileLit_20 : decode cX8_isTileLit 20 = .ok (.ireturn, 1) := by decide +kernel
set_option maxRecDepth 20000 in
theorem ggX8_liesInMoonlight_X8_rowOf : GoodIn wsX8_liesInMoonlight wsX8_rowOf := goodIn_r _ [6, 7, 8, 22, 23, 24, 25, 26, 27, 28, 29, 30, 31, 32, 33, 34, 35, 36, 37, 38, 39, 40, 41, 42, 43, 44, 45, 46, 47, 48] (by decide +kernel) (by decide +kernel)
set_option maxRecDepth 20000 in
theorem gX8_liesInMoonlight_X8_rowOf : GoodIn wsX8_liesInMoonlight (wsV RX8 116 RX8 yX8_rowOf wsX8_rowOf) := goodIn_app (goodIn_of _ (by decide +kernel)) ggX8_liesInMoonlight_X8_rowOf
set_option maxRecDepth 20000 in
theorem ggX8_liesInMoonlight_X8_rowInMoonlight : GoodIn wsX8_liesInMoonlight wsX8_rowInMoonlight := goodIn_r _ [12, 7, 13, 14, 22, 23, 24, 25, 26, 27, 28, 29, 30, 31, 32, 33, 34, 35, 36, 37, 38, 39, 40, 41, 42, 43, 44, 45, 46, 47, 48] (by decide +kernel) (by decide +kernel)
set_option maxRecDepth 20000 in
theorem gX8_liesInMoonlight_X8_rowInMoonlight : GoodIn wsX8_liesInMoonlight (wsV RX8 120 RX8 yX8_rowInMoonlight wsX8_rowInMoonlight) := goodIn_app (goodIn_of _ (by decide +kernel)) ggX8_liesInMoonlight_X8_rowInMoonlight
set_option maxRecDepth 20000 in
theorem ggX8_liesInMoonlight_X8_columnOf : GoodIn wsX8_liesInMoonlight wsX8_columnOf := goodIn_r _ [18, 7, 8, 22, 23, 24, 25, 26, 27, 28, 29, 30, 31, 32, 33, 34, 35, 36, 37, 38, 39, 40, 41, 42, 43, 44, 45, 46, 47, 48] (by decide +kernel) (by decide +kernel)
set_option maxRecDepth 20000 in
theorem gX8_liesInMoonlight_X8_columnOf : GoodIn wsX8_liesInMoonlight (wsV RX8 123 RX8 yX8_columnOf wsX8_columnOf) := goodIn_app (goodIn_of _ (by decide +kernel)) ggX8_liesInMoonlight_X8_columnOf
set_option maxRecDepth 20000 in
theorem ggX8_liesInMoonlight_X9_at : GoodIn wsX8_liesInMoonlight wsX9_at := goodIn_ca (goodIn_r _ [21] (by decide +kernel) (by decide +kernel)) (goodIn_sub (fun _ h => List.mem_cons_of_mem _ (List.mem_append_right _ h)) (by decide +kernel))
set_option maxRecDepth 20000 in
theorem gX8_liesInMoonlight_X9_at_n126 : GoodIn wsX8_liesInMoonlight (wsX9_at) := ggX8_liesInMoonlight_X9_at
theorem dX8_liesInMoonlight_0 : decode cX8_liesInMoonlight 0 = .ok (.aload_n 0, 1) := by decide +kernel
theorem dX8_liesInMoonlight_1 : decode cX8_liesInMoonlight 1 = .ok (.iload_n 1, 1) := by decide +kernel
theorem dX8_liesInMoonlight_2 : decode cX8_liesInMoonlight 2 = .ok (.invokevirtual 116, 3) := by decide +kernel
theorem dX8_liesInMoonlight_5 : decode cX8_liesInMoonlight 5 = .ok (.aload_n 0, 1) := by decide +kernel
theorem dX8_liesInMoonlight_6 : decode cX8_liesInMoonlight 6 = .ok (.invokevirtual 120, 3) := by decide +kernel
theorem dX8_liesInMoonlight_9 : decode cX8_liesInMoonlight 9 = .ok (.if_icmp .ne 22, 3) := by decide +kernel
theorem dX8_liesInMoonlight_12 : decode cX8_liesInMoonlight 12 = .ok (.aload_n 0, 1) := by decide +kernel
theorem dX8_liesInMoonlight_13 : decode cX8_liesInMoonlight 13 = .ok (.getfield 32, 3) := by decide +kernel
theorem dX8_liesInMoonlight_16 : decode cX8_liesInMoonlight 16 = .ok (.aload_n 0, 1) := by decide +kernel
theorem dX8_liesInMoonlight_17 : decode cX8_liesInMoonlight 17 = .ok (.iload_n 1, 1) := by decide +kernel
theorem dX8_liesInMoonlight_18 : decode cX8_liesInMoonlight 18 = .ok (.invokevirtual 123, 3) := by decide +kernel
theorem dX8_liesInMoonlight_21 : decode cX8_liesInMoonlight 21 = .ok (.invokestatic 126, 3) := by decide +kernel
theorem dX8_liesInMoonlight_24 : decode cX8_liesInMoonlight 24 = .ok (.ifCond .ne 7, 3) := by decide +kernel
theorem dX8_liesInMoonlight_27 : decode cX8_liesInMoonlight 27 = .ok (.iconst 1, 1) := by decide +kernel
theorem dX8_liesInMoonlight_28 : decode cX8_liesInMoonlight 28 = .ok (.goto 4, 3) := by decide +kernel
theorem dX8_liesInMoonlight_31 : decode cX8_liesInMoonlight 31 = .ok (.iconst 0, 1) := by decide +kernel
theorem dX8_liesInMoonlight_32 : decode cX8_liesInMoonlight 32 = .ok (.ireturn, 1) := by decide +kernel
set_option maxRecDepth 20000 in
theorem ggX8_hasRoomForBowl_X9_at : GoodIn wsX8_hasRoomForBowl wsX9_at := goodIn_ca (goodIn_r _ [5] (by decide +kernel) (by decide +kernel)) (goodIn_sub (fun _ h => List.mem_cons_of_mem _ (List.mem_append_right _ h)) (by decide +kernel))
set_option maxRecDepth 20000 in
theorem gX8_hasRoomForBowl_X9_at_n126 : GoodIn wsX8_hasRoomForBowl (wsX9_at) := ggX8_hasRoomForBowl_X9_at
theorem dX8_hasRoomForBowl_0 : decode cX8_hasRoomForBowl 0 = .ok (.aload_n 0, 1) := by decide +kernel
theorem dX8_hasRoomForBowl_1 : decode cX8_hasRoomForBowl 1 = .ok (.getfield 42, 3) := by decide +kernel
theorem dX8_hasRoomForBowl_4 : decode cX8_hasRoomForBowl 4 = .ok (.iload_n 1, 1) := by decide +kernel
theorem dX8_hasRoomForBowl_5 : decode cX8_hasRoomForBowl 5 = .ok (.invokestatic 126, 3) := by decide +kernel
theorem dX8_hasRoomForBowl_8 : decode cX8_hasRoomForBowl 8 = .ok (.ifCond .ne 18, 3) := by decide +kernel
theorem dX8_hasRoomForBowl_11 : decode cX8_hasRoomForBowl 11 = .ok (.aload_n 0, 1) := by decide +kernel
theorem dX8_hasRoomForBowl_12 : decode cX8_hasRoomForBowl 12 = .ok (.getfield 39, 3) := by decide +kernel
theorem dX8_hasRoomForBowl_15 : decode cX8_hasRoomForBowl 15 = .ok (.iload_n 1, 1) := by decide +kernel
theorem dX8_hasRoomForBowl_16 : decode cX8_hasRoomForBowl 16 = .ok (.invokestatic 126, 3) := by decide +kernel
theorem dX8_hasRoomForBowl_19 : decode cX8_hasRoomForBowl 19 = .ok (.ifCond .ne 7, 3) := by decide +kernel
theorem dX8_hasRoomForBowl_22 : decode cX8_hasRoomForBowl 22 = .ok (.iconst 1, 1) := by decide +kernel
theorem dX8_hasRoomForBowl_23 : decode cX8_hasRoomForBowl 23 = .ok (.goto 4, 3) := by decide +kernel
theorem dX8_hasRoomForBowl_26 : decode cX8_hasRoomForBowl 26 = .ok (.iconst 0, 1) := by decide +kernel
theorem dX8_hasRoomForBowl_27 : decode cX8_hasRoomForBowl 27 = .ok (.ireturn, 1) := by decide +kernel
set_option maxRecDepth 20000 in
theorem ggX8_triedSteps_X8_isMoonOut : GoodIn wsX8_triedSteps wsX8_isMoonOut := goodIn_ca (goodIn_r _ [10, 11, 12, 13, 14, 15, 9, 16, 17, 18, 19, 20, 21, 22, 23, 24, 25, 26, 27, 28, 29, 30, 31, 32, 33, 34, 35, 36, 37, 38, 39, 40, 41, 42, 43, 44, 45, 46, 47, 48, 49, 50, 51, 52] (by decide +kernel) (by decide +kernel)) (goodIn_sub (fun _ h => List.mem_cons_of_mem _ (List.mem_append_right _ h)) (by decide +kernel))
set_option maxRecDepth 20000 in
theorem gX8_triedSteps_X8_isMoonOut : GoodIn wsX8_triedSteps (wsV RX8 109 RX8 yX8_isMoonOut wsX8_isMoonOut) := goodIn_app (goodIn_of _ (by decide +kernel)) ggX8_triedSteps_X8_isMoonOut
set_option maxRecDepth 20000 in
theorem ggX8_triedSteps_X8_moonlight : GoodIn wsX8_triedSteps wsX8_moonlight := goodIn_r _ [16, 17, 26, 27, 28, 29, 30, 31, 32, 33, 34, 35, 36, 37, 38, 39] (by decide +kernel) (by decide +kernel)
set_option maxRecDepth 20000 in
theorem gX8_triedSteps_X8_moonlight : GoodIn wsX8_triedSteps (wsV RX8 101 RX8 yX8_moonlight wsX8_moonlight) := goodIn_app (goodIn_of _ (by decide +kernel)) ggX8_triedSteps_X8_moonlight
theorem dX8_triedSteps_0 : decode cX8_triedSteps 0 = .ok (.aload_n 0, 1) := by decide +kernel
theorem dX8_triedSteps_1 : decode cX8_triedSteps 1 = .ok (.invokevirtual 109, 3) := by decide +kernel
theorem dX8_triedSteps_4 : decode cX8_triedSteps 4 = .ok (.ifCond .eq 21, 3) := by decide +kernel
theorem dX8_triedSteps_7 : decode cX8_triedSteps 7 = .ok (.aload_n 0, 1) := by decide +kernel
theorem dX8_triedSteps_8 : decode cX8_triedSteps 8 = .ok (.getfield 59, 3) := by decide +kernel
theorem dX8_triedSteps_11 : decode cX8_triedSteps 11 = .ok (.iconst 1, 1) := by decide +kernel
theorem dX8_triedSteps_12 : decode cX8_triedSteps 12 = .ok (.aload_n 0, 1) := by decide +kernel
theorem dX8_triedSteps_13 : decode cX8_triedSteps 13 = .ok (.invokevirtual 101, 3) := by decide +kernel
theorem dX8_triedSteps_16 : decode cX8_triedSteps 16 = .ok (.iconst 4, 1) := by decide +kernel
theorem dX8_triedSteps_17 : decode cX8_triedSteps 17 = .ok (.idiv, 1) := by decide +kernel
theorem dX8_triedSteps_18 : decode cX8_triedSteps 18 = .ok (.iadd, 1) := by decide +kernel
theorem dX8_triedSteps_19 : decode cX8_triedSteps 19 = .ok (.invokestatic 130, 3) := by decide +kernel
theorem dX8_triedSteps_22 : decode cX8_triedSteps 22 = .ok (.goto 4, 3) := by decide +kernel
theorem dX8_triedSteps_25 : decode cX8_triedSteps 25 = .ok (.iconst 0, 1) := by decide +kernel
theorem dX8_triedSteps_26 : decode cX8_triedSteps 26 = .ok (.ireturn, 1) := by decide +kernel
set_option maxRecDepth 20000 in
theorem ggX8_passMinutes_X8_passMinute : GoodIn wsX8_passMinutes wsX8_passMinute := goodIn_ca (goodIn_r _ [5, 6, 7, 8, 9, 10, 11, 12, 13, 14, 4, 15, 16, 17, 18, 19, 20, 21, 22, 23, 24, 25, 26, 27, 28, 29, 30, 31, 32, 33, 34, 35, 36, 37, 38, 39, 40, 41, 42, 43, 44, 45, 46, 47, 48, 49, 50, 51, 52, 53, 54, 55, 56, 57, 58, 59, 60, 61, 62, 63, 64, 65, 66, 67, 68, 69, 70, 71, 72, 73, 74, 75, 76, 77, 78, 79, 80, 81, 82, 83, 84, 85, 86, 87, 88, 89, 90, 91, 92, 93, 94, 95, 96, 97, 98, 99, 100, 101, 102, 103, 104, 105, 106, 107, 108, 109, 110, 111, 112, 113, 114, 115, 116, 117, 118, 119, 120, 121, 122, 123, 124, 125, 126, 127, 128, 129, 130, 131, 132, 133, 134, 135, 136, 137, 138, 139, 140, 141, 142, 143, 144, 145, 146, 147, 148, 149, 150, 151, 152, 153, 154, 155, 156, 157, 158, 159, 160, 161, 162, 163, 164, 165, 166, 167, 168, 169, 170, 171, 172, 173, 174, 175, 176, 177, 178, 179, 180, 181, 182, 183, 184, 185, 186, 187, 188, 189, 190, 191, 192, 193, 194, 195, 196, 197, 198, 199, 200, 201, 202, 203, 204, 205, 206, 207, 208, 209, 210, 211, 212, 213, 214, 215, 216, 217, 218, 219, 220, 221, 222, 223, 224, 225, 226, 227, 228, 229, 230] (by decide +kernel) (by decide +kernel)) (goodIn_sub (fun _ h => List.mem_cons_of_mem _ (List.mem_append_right _ h)) (by decide +kernel))
set_option maxRecDepth 20000 in
theorem gX8_passMinutes_X8_passMinute : GoodIn wsX8_passMinutes (wsV RX8 136 RX8 yX8_passMinute wsX8_passMinute) := goodIn_app (goodIn_of _ (by decide +kernel)) ggX8_passMinutes_X8_passMinute
theorem dX8_passMinutes_0 : decode cX8_passMinutes 0 = .ok (.iconst 0, 1) := by decide +kernel
theorem dX8_passMinutes_1 : decode cX8_passMinutes 1 = .ok (.istore_n 2, 1) := by decide +kernel
theorem dX8_passMinutes_2 : decode cX8_passMinutes 2 = .ok (.iload_n 2, 1) := by decide +kernel
theorem dX8_passMinutes_3 : decode cX8_passMinutes 3 = .ok (.iload_n 1, 1) := by decide +kernel
theorem dX8_passMinutes_4 : decode cX8_passMinutes 4 = .ok (.if_icmp .ge 13, 3) := by decide +kernel
theorem dX8_passMinutes_7 : decode cX8_passMinutes 7 = .ok (.aload_n 0, 1) := by decide +kernel
theorem dX8_passMinutes_8 : decode cX8_passMinutes 8 = .ok (.invokevirtual 136, 3) := by decide +kernel
theorem dX8_passMinutes_11 : decode cX8_passMinutes 11 = .ok (.iinc 2 1, 3) := by decide +kernel
theorem dX8_passMinutes_14 : decode cX8_passMinutes 14 = .ok (.goto (-12), 3) := by decide +kernel
theorem dX8_passMinutes_17 : decode cX8_passMinutes 17 = .ok (.return_, 1) := by decide +kernel
set_option maxRecDepth 20000 in
theorem ggX8_passMinute_X8_moveCat : GoodIn wsX8_passMinute wsX8_moveCat := goodIn_ca (goodIn_r _ [11, 2, 12, 13, 14, 15, 16, 17, 18, 19, 20, 21, 22, 10, 23, 24, 25, 188, 189, 190, 191, 192, 193, 194, 195, 196, 197, 198, 199, 200, 201, 211, 212, 213, 214, 215, 216, 217, 218, 219, 220, 221, 222, 223] (by decide +kernel) (by decide +kernel)) (goodIn_sub (fun _ h => List.mem_cons_of_mem _ (List.mem_append_right _ h)) (by decide +kernel))
set_option maxRecDepth 20000 in
theorem gX8_passMinute_X8_moveCat : GoodIn wsX8_passMinute (wsV RX8 139 RX8 yX8_moveCat wsX8_moveCat) := goodIn_app (goodIn_of _ (by decide +kernel)) ggX8_passMinute_X8_moveCat
set_option maxRecDepth 20000 in
theorem ggX8_passMinute_X9_at : GoodIn wsX8_passMinute wsX9_at := goodIn_ca (goodIn_r _ [19] (by decide +kernel) (by decide +kernel)) (goodIn_sub (fun _ h => List.mem_cons_of_mem _ (List.mem_append_right _ h)) (by decide +kernel))
set_option maxRecDepth 20000 in
theorem gX8_passMinute_X9_at_n126 : GoodIn wsX8_passMinute (wsX9_at) := ggX8_passMinute_X9_at
set_option maxRecDepth 20000 in
theorem ggX8_passMinute_X8_spillBowl : GoodIn wsX8_passMinute wsX8_spillBowl := goodIn_ca (goodIn_r _ [29, 1, 2, 16, 12, 30, 3, 5, 31, 32, 33, 18, 34, 35, 36, 37, 38, 39, 40, 41, 42, 43, 44, 45, 10, 46, 47, 48, 49, 50, 51, 52, 53, 54, 24, 55, 56, 57, 58, 59, 60, 61, 62, 63, 64, 188, 189, 190, 191, 192, 193, 194, 195, 196, 197, 198, 199, 200, 201, 211, 212, 213, 214, 215, 216, 217, 218, 219, 220, 221, 222, 223, 202, 203, 204, 205, 206, 207, 208, 209, 210] (by decide +kernel) (by decide +kernel)) (goodIn_sub (fun _ h => List.mem_cons_of_mem _ (List.mem_append_right _ h)) (by decide +kernel))
set_option maxRecDepth 20000 in
theorem gX8_passMinute_X8_spillBowl : GoodIn wsX8_passMinute (wsV RX8 142 RX8 yX8_spillBowl wsX8_spillBowl) := goodIn_app (goodIn_of _ (by decide +kernel)) ggX8_passMinute_X8_spillBowl
set_option maxRecDepth 20000 in
theorem ggX8_passMinute_X8_triedSteps : GoodIn wsX8_passMinute wsX8_triedSteps := goodIn_ca (goodIn_r _ [68, 69, 70, 71, 49, 72, 73, 74, 75, 10, 76, 12, 6, 77, 78, 79, 80, 81, 82, 83, 84, 85, 86, 87, 88, 89, 188, 189, 190, 191, 192, 193, 194, 195, 196, 197, 198, 199, 200, 201, 211, 212, 213, 214, 215, 216, 217, 218, 219, 220, 221, 222, 223] (by decide +kernel) (by decide +kernel)) (goodIn_sub (fun _ h => List.mem_cons_of_mem _ (List.mem_append_right _ h)) (by decide +kernel))
set_option maxRecDepth 20000 in
theorem gX8_passMinute_X8_triedSteps : GoodIn wsX8_passMinute (wsV RX8 151 RX8 yX8_triedSteps wsX8_triedSteps) := goodIn_app (goodIn_of _ (by decide +kernel)) ggX8_passMinute_X8_triedSteps
set_option maxRecDepth 20000 in
theorem ggX8_passMinute_X8_walk : GoodIn wsX8_passMinute wsX8_walk := goodIn_ca (goodIn_r _ [93, 3, 64, 5, 12, 94, 95, 20, 21, 22, 10, 23, 24, 25, 96, 97, 98, 99, 100, 16, 55, 56, 57, 58, 17, 18, 19, 101, 102, 103, 38, 104, 105, 106, 107, 108, 109, 110, 111, 112, 113, 114, 115, 116, 1, 33, 34, 117, 118, 119, 120, 63, 121, 122, 123, 124, 125, 126, 127, 42, 128, 129, 130, 131, 41, 188, 189, 190, 191, 192, 193, 194, 195, 196, 197, 198, 199, 200, 201, 202, 203, 204, 205, 206, 207, 208, 209, 210, 211, 212, 213, 214, 215, 216, 217, 218, 219, 220, 221, 222, 223] (by decide +kernel) (by decide +kernel)) (goodIn_sub (fun _ h => List.mem_cons_of_mem _ (List.mem_append_right _ h)) (by decide +kernel))
set_option maxRecDepth 20000 in
theorem gX8_passMinute_X8_walk : GoodIn wsX8_passMinute (wsV RX8 154 RX8 yX8_walk wsX8_walk) := goodIn_app (goodIn_of _ (by decide +kernel)) ggX8_passMinute_X8_walk
set_option maxRecDepth 20000 in
theorem ggX8_passMinute_X8_drySpills : GoodIn wsX8_passMinute wsX8_drySpills := goodIn_ca (goodIn_r _ [135, 16, 111, 136, 137, 49, 138, 139, 140, 141, 10, 142, 12, 25, 24, 17, 18, 19, 33, 34, 188, 189, 190, 191, 192, 193, 194, 195, 196, 197, 198, 199, 200, 201, 211, 212, 213, 214, 215, 216, 217, 218, 219, 220, 221, 222, 223] (by decide +kernel) (by decide +kernel)) (goodIn_sub (fun _ h => List.mem_cons_of_mem _ (List.mem_append_right _ h)) (by decide +kernel))
set_option maxRecDepth 20000 in
theorem gX8_passMinute_X8_drySpills : GoodIn wsX8_passMinute (wsV RX8 158 RX8 yX8_drySpills wsX8_drySpills) := goodIn_app (goodIn_of _ (by decide +kernel)) ggX8_passMinute_X8_drySpills
set_option maxRecDepth 20000 in
theorem ggX8_passMinute_X8_nightLength : GoodIn wsX8_passMinute wsX8_nightLength := goodIn_r _ [146, 12, 25, 147, 188, 189, 190, 191, 192, 193, 194, 195, 196, 197, 198, 199, 200, 201, 211, 212, 213, 214, 215, 216, 217, 218, 219, 220, 221, 222, 223] (by decide +kernel) (by decide +kernel)
set_option maxRecDepth 20000 in
theorem gX8_passMinute_X8_nightLength : GoodIn wsX8_passMinute (wsV RX8 161 RX8 yX8_nightLength wsX8_nightLength) := goodIn_app (goodIn_of _ (by decide +kernel)) ggX8_passMinute_X8_nightLength
set_option maxRecDepth 20000 in
theorem ggX8_passMinute_X8_endNight : GoodIn wsX8_passMinute wsX8_endNight := goodIn_ca (goodIn_r _ [151, 3, 152, 153, 81, 6, 154, 155, 156, 157, 158, 159, 160, 71, 49, 72, 161, 162, 163, 164, 165, 166, 17, 18, 19, 33, 34, 188, 189, 190, 191, 192, 193, 194, 195, 196, 197, 198, 199, 200, 201, 202, 203, 204, 205, 206, 207, 208, 209, 210, 224, 225, 226] (by decide +kernel) (by decide +kernel)) (goodIn_sub (fun _ h => List.mem_cons_of_mem _ (List.mem_append_right _ h)) (by decide +kernel))
set_option maxRecDepth 20000 in
theorem gX8_passMinute_X8_endNight : GoodIn wsX8_passMinute (wsV RX8 164 RX8 yX8_endNight wsX8_endNight) := goodIn_app (goodIn_of _ (by decide +kernel)) ggX8_passMinute_X8_endNight
set_option maxRecDepth 20000 in
theorem ggX8_passMinute_X8_stirCurtains : GoodIn wsX8_passMinute wsX8_stirCurtains := goodIn_ca (goodIn_r _ [170, 12, 24, 171, 6, 100, 17, 18, 19, 33, 34, 188, 189, 190, 191, 192, 193, 194, 195, 196, 197, 198, 199, 200, 201, 211, 212, 213, 214, 215, 216, 217, 218, 219, 220, 221, 222, 223] (by decide +kernel) (by decide +kernel)) (goodIn_sub (fun _ h => List.mem_cons_of_mem _ (List.mem_append_right _ h)) (by decide +kernel))
set_option maxRecDepth 20000 in
theorem gX8_passMinute_X8_stirCurtains : GoodIn wsX8_passMinute (wsV RX8 167 RX8 yX8_stirCurtains wsX8_stirCurtains) := goodIn_app (goodIn_of _ (by decide +kernel)) ggX8_passMinute_X8_stirCurtains
set_option maxRecDepth 20000 in
theorem ggX8_passMinute_X8_relocate : GoodIn wsX8_passMinute wsX8_relocate := goodIn_ca (goodIn_r _ [175, 3, 5, 12, 24, 63, 73, 74, 75, 10, 76, 6, 77, 78, 79, 80, 81, 82, 83, 84, 85, 86, 87, 88, 89, 176, 177, 178, 179, 100, 51, 52, 53, 54, 180, 181, 182, 183, 147, 55, 56, 57, 58, 17, 18, 19, 184, 185, 186, 187, 16, 188, 189, 190, 191, 192, 193, 194, 195, 196, 197, 198, 199, 200, 201, 202, 203, 204, 205, 206, 207, 208, 209, 210, 211, 212, 213, 214, 215, 216, 217, 218, 219, 220, 221, 222, 223] (by decide +kernel) (by decide +kernel)) (goodIn_sub (fun _ h => List.mem_cons_of_mem _ (List.mem_append_right _ h)) (by decide +kernel))
set_option maxRecDepth 20000 in
theorem gX8_passMinute_X8_relocate : GoodIn wsX8_passMinute (wsV RX8 170 RX8 yX8_relocate wsX8_relocate) := goodIn_app (goodIn_of _ (by decide +kernel)) ggX8_passMinute_X8_relocate
theorem dX8_passMinute_0 : decode cX8_passMinute 0 = .ok (.aload_n 0, 1) := by decide +kernel
theorem dX8_passMinute_1 : decode cX8_passMinute 1 = .ok (.invokevirtual 139, 3) := by decide +kernel
theorem dX8_passMinute_4 : decode cX8_passMinute 4 = .ok (.ifCond .eq 21, 3) := by decide +kernel
theorem dX8_passMinute_7 : decode cX8_passMinute 7 = .ok (.aload_n 0, 1) := by decide +kernel
theorem dX8_passMinute_8 : decode cX8_passMinute 8 = .ok (.getfield 42, 3) := by decide +kernel
theorem dX8_passMinute_11 : decode cX8_passMinute 11 = .ok (.aload_n 0, 1) := by decide +kernel
theorem dX8_passMinute_12 : decode cX8_passMinute 12 = .ok (.getfield 72, 3) := by decide +kernel
theorem dX8_passMinute_15 : decode cX8_passMinute 15 = .ok (.invokestatic 126, 3) := by decide +kernel
theorem dX8_passMinute_18 : decode cX8_passMinute 18 = .ok (.ifCond .le 7, 3) := by decide +kernel
theorem dX8_passMinute_21 : decode cX8_passMinute 21 = .ok (.aload_n 0, 1) := by decide +kernel
theorem dX8_passMinute_22 : decode cX8_passMinute 22 = .ok (.invokevirtual 142, 3) := by decide +kernel
theorem dX8_passMinute_25 : decode cX8_passMinute 25 = .ok (.aload_n 0, 1) := by decide +kernel
theorem dX8_passMinute_26 : decode cX8_passMinute 26 = .ok (.getfield 21, 3) := by decide +kernel
theorem dX8_passMinute_29 : decode cX8_passMinute 29 = .ok (.getfield 145, 3) := by decide +kernel
theorem dX8_passMinute_32 : decode cX8_passMinute 32 = .ok (.ifCond .le 19, 3) := by decide +kernel
theorem dX8_passMinute_35 : decode cX8_passMinute 35 = .ok (.aload_n 0, 1) := by decide +kernel
theorem dX8_passMinute_36 : decode cX8_passMinute 36 = .ok (.getfield 21, 3) := by decide +kernel
theorem dX8_passMinute_39 : decode cX8_passMinute 39 = .ok (.dup, 1) := by decide +kernel
theorem dX8_passMinute_40 : decode cX8_passMinute 40 = .ok (.getfield 145, 3) := by decide +kernel
theorem dX8_passMinute_43 : decode cX8_passMinute 43 = .ok (.iconst 1, 1) := by decide +kernel
theorem dX8_passMinute_44 : decode cX8_passMinute 44 = .ok (.isub, 1) := by decide +kernel
theorem dX8_passMinute_45 : decode cX8_passMinute 45 = .ok (.putfield 145, 3) := by decide +kernel
theorem dX8_passMinute_48 : decode cX8_passMinute 48 = .ok (.goto 22, 3) := by decide +kernel
theorem dX8_passMinute_51 : decode cX8_passMinute 51 = .ok (.aload_n 0, 1) := by decide +kernel
theorem dX8_passMinute_52 : decode cX8_passMinute 52 = .ok (.getfield 21, 3) := by decide +kernel
theorem dX8_passMinute_55 : decode cX8_passMinute 55 = .ok (.getfield 148, 3) := by decide +kernel
theorem dX8_passMinute_58 : decode cX8_passMinute 58 = .ok (.iconst (-1), 1) := by decide +kernel
theorem dX8_passMinute_59 : decode cX8_passMinute 59 = .ok (.if_icmp .eq 11, 3) := by decide +kernel
theorem dX8_passMinute_62 : decode cX8_passMinute 62 = .ok (.aload_n 0, 1) := by decide +kernel
theorem dX8_passMinute_63 : decode cX8_passMinute 63 = .ok (.aload_n 0, 1) := by decide +kernel
theorem dX8_passMinute_64 : decode cX8_passMinute 64 = .ok (.invokevirtual 151, 3) := by decide +kernel
theorem dX8_passMinute_67 : decode cX8_passMinute 67 = .ok (.invokevirtual 154, 3) := by decide +kernel
theorem dX8_passMinute_70 : decode cX8_passMinute 70 = .ok (.aload_n 0, 1) := by decide +kernel
theorem dX8_passMinute_71 : decode cX8_passMinute 71 = .ok (.invokevirtual 158, 3) := by decide +kernel
theorem dX8_passMinute_74 : decode cX8_passMinute 74 = .ok (.aload_n 0, 1) := by decide +kernel
theorem dX8_passMinute_75 : decode cX8_passMinute 75 = .ok (.dup, 1) := by decide +kernel
theorem dX8_passMinute_76 : decode cX8_passMinute 76 = .ok (.getfield 66, 3) := by decide +kernel
theorem dX8_passMinute_79 : decode cX8_passMinute 79 = .ok (.iconst 1, 1) := by decide +kernel
theorem dX8_passMinute_80 : decode cX8_passMinute 80 = .ok (.iadd, 1) := by decide +kernel
theorem dX8_passMinute_81 : decode cX8_passMinute 81 = .ok (.putfield 66, 3) := by decide +kernel
theorem dX8_passMinute_84 : decode cX8_passMinute 84 = .ok (.aload_n 0, 1) := by decide +kernel
theorem dX8_passMinute_85 : decode cX8_passMinute 85 = .ok (.getfield 66, 3) := by decide +kernel
theorem dX8_passMinute_88 : decode cX8_passMinute 88 = .ok (.aload_n 0, 1) := by decide +kernel
theorem dX8_passMinute_89 : decode cX8_passMinute 89 = .ok (.invokevirtual 161, 3) := by decide +kernel
theorem dX8_passMinute_92 : decode cX8_passMinute 92 = .ok (.if_icmp .lt 7, 3) := by decide +kernel
theorem dX8_passMinute_95 : decode cX8_passMinute 95 = .ok (.aload_n 0, 1) := by decide +kernel
theorem dX8_passMinute_96 : decode cX8_passMinute 96 = .ok (.invokevirtual 164, 3) := by decide +kernel
theorem dX8_passMinute_99 : decode cX8_passMinute 99 = .ok (.aload_n 0, 1) := by decide +kernel
theorem dX8_passMinute_100 : decode cX8_passMinute 100 = .ok (.invokevirtual 167, 3) := by decide +kernel
theorem dX8_passMinute_103 : decode cX8_passMinute 103 = .ok (.aload_n 0, 1) := by decide +kernel
theorem dX8_passMinute_104 : decode cX8_passMinute 104 = .ok (.invokevirtual 170, 3) := by decide +kernel
theorem dX8_passMinute_107 : decode cX8_passMinute 107 = .ok (.return_, 1) := by decide +kernel
set_option maxRecDepth 20000 in
theorem ggX8_moveCat_X9_at : GoodIn wsX8_moveCat wsX9_at := goodIn_ca (goodIn_r _ [9] (by decide +kernel) (by decide +kernel)) (goodIn_sub (fun _ h => List.mem_cons_of_mem _ (List.mem_append_right _ h)) (by decide +kernel))
set_option maxRecDepth 20000 in
theorem gX8_moveCat_X9_at_n126 : GoodIn wsX8_moveCat (wsX9_at) := ggX8_moveCat_X9_at
set_option maxRecDepth 20000 in
theorem ggX8_moveCat_X8_neighbor : GoodIn wsX8_moveCat wsX8_neighbor := goodIn_r _ [14, 2, 15, 16, 17, 18, 19, 20, 21, 22, 23, 24, 25, 26, 27, 28, 29, 30, 31, 32, 33, 34, 35, 36, 37, 38, 39, 40, 41, 42, 43] (by decide +kernel) (by decide +kernel)
set_option maxRecDepth 20000 in
theorem gX8_moveCat_X8_neighbor : GoodIn wsX8_moveCat (wsV RX8 179 RX8 yX8_neighbor wsX8_neighbor) := goodIn_app (goodIn_of _ (by decide +kernel)) ggX8_moveCat_X8_neighbor
theorem dX8_moveCat_0 : decode cX8_moveCat 0 = .ok (.aload_n 0, 1) := by decide +kernel
theorem dX8_moveCat_1 : decode cX8_moveCat 1 = .ok (.getfield 72, 3) := by decide +kernel
theorem dX8_moveCat_4 : decode cX8_moveCat 4 = .ok (.iconst (-1), 1) := by decide +kernel
theorem dX8_moveCat_5 : decode cX8_moveCat 5 = .ok (.if_icmp .eq 13, 3) := by decide +kernel
theorem dX8_moveCat_8 : decode cX8_moveCat 8 = .ok (.aload_n 0, 1) := by decide +kernel
theorem dX8_moveCat_9 : decode cX8_moveCat 9 = .ok (.getfield 12, 3) := by decide +kernel
theorem dX8_moveCat_12 : decode cX8_moveCat 12 = .ok (.getfield 173, 3) := by decide +kernel
theorem dX8_moveCat_15 : decode cX8_moveCat 15 = .ok (.ifCond .gt 5, 3) := by decide +kernel
theorem dX8_moveCat_18 : decode cX8_moveCat 18 = .ok (.iconst 0, 1) := by decide +kernel
theorem dX8_moveCat_19 : decode cX8_moveCat 19 = .ok (.ireturn, 1) := by decide +kernel
theorem dX8_moveCat_20 : decode cX8_moveCat 20 = .ok (.aload_n 0, 1) := by decide +kernel
theorem dX8_moveCat_21 : decode cX8_moveCat 21 = .ok (.aload_n 0, 1) := by decide +kernel
theorem dX8_moveCat_22 : decode cX8_moveCat 22 = .ok (.getfield 72, 3) := by decide +kernel
theorem dX8_moveCat_25 : decode cX8_moveCat 25 = .ok (.aload_n 0, 1) := by decide +kernel
theorem dX8_moveCat_26 : decode cX8_moveCat 26 = .ok (.getfield 12, 3) := by decide +kernel
theorem dX8_moveCat_29 : decode cX8_moveCat 29 = .ok (.getfield 176, 3) := by decide +kernel
theorem dX8_moveCat_32 : decode cX8_moveCat 32 = .ok (.aload_n 0, 1) := by decide +kernel
theorem dX8_moveCat_33 : decode cX8_moveCat 33 = .ok (.getfield 75, 3) := by decide +kernel
theorem dX8_moveCat_36 : decode cX8_moveCat 36 = .ok (.invokestatic 126, 3) := by decide +kernel
theorem dX8_moveCat_39 : decode cX8_moveCat 39 = .ok (.invokevirtual 179, 3) := by decide +kernel
theorem dX8_moveCat_42 : decode cX8_moveCat 42 = .ok (.istore_n 1, 1) := by decide +kernel
theorem dX8_moveCat_43 : decode cX8_moveCat 43 = .ok (.iload_n 1, 1) := by decide +kernel
theorem dX8_moveCat_44 : decode cX8_moveCat 44 = .ok (.iconst (-1), 1) := by decide +kernel
theorem dX8_moveCat_45 : decode cX8_moveCat 45 = .ok (.if_icmp .eq 19, 3) := by decide +kernel
theorem dX8_moveCat_48 : decode cX8_moveCat 48 = .ok (.aload_n 0, 1) := by decide +kernel
theorem dX8_moveCat_49 : decode cX8_moveCat 49 = .ok (.getfield 39, 3) := by decide +kernel
theorem dX8_moveCat_52 : decode cX8_moveCat 52 = .ok (.iload_n 1, 1) := by decide +kernel
theorem dX8_moveCat_53 : decode cX8_moveCat 53 = .ok (.invokestatic 126, 3) := by decide +kernel
theorem dX8_moveCat_56 : decode cX8_moveCat 56 = .ok (.ifCond .ne 8, 3) := by decide +kernel
theorem dX8_moveCat_59 : decode cX8_moveCat 59 = .ok (.aload_n 0, 1) := by decide +kernel
theorem dX8_moveCat_60 : decode cX8_moveCat 60 = .ok (.iload_n 1, 1) := by decide +kernel
theorem dX8_moveCat_61 : decode cX8_moveCat 61 = .ok (.putfield 72, 3) := by decide +kernel
theorem dX8_moveCat_64 : decode cX8_moveCat 64 = .ok (.aload_n 0, 1) := by decide +kernel
theorem dX8_moveCat_65 : decode cX8_moveCat 65 = .ok (.aload_n 0, 1) := by decide +kernel
theorem dX8_moveCat_66 : decode cX8_moveCat 66 = .ok (.getfield 75, 3) := by decide +kernel
theorem dX8_moveCat_69 : decode cX8_moveCat 69 = .ok (.iconst 1, 1) := by decide +kernel
theorem dX8_moveCat_70 : decode cX8_moveCat 70 = .ok (.iadd, 1) := by decide +kernel
theorem dX8_moveCat_71 : decode cX8_moveCat 71 = .ok (.aload_n 0, 1) := by decide +kernel
theorem dX8_moveCat_72 : decode cX8_moveCat 72 = .ok (.getfield 12, 3) := by decide +kernel
theorem dX8_moveCat_75 : decode cX8_moveCat 75 = .ok (.getfield 173, 3) := by decide +kernel
theorem dX8_moveCat_78 : decode cX8_moveCat 78 = .ok (.irem, 1) := by decide +kernel
theorem dX8_moveCat_79 : decode cX8_moveCat 79 = .ok (.putfield 75, 3) := by decide +kernel
theorem dX8_moveCat_82 : decode cX8_moveCat 82 = .ok (.iconst 1, 1) := by decide +kernel
theorem dX8_moveCat_83 : decode cX8_moveCat 83 = .ok (.ireturn, 1) := by decide +kernel
set_option maxRecDepth 20000 in
theorem ggX8_spillBowl_X9_put : GoodIn wsX8_spillBowl wsX9_put := goodIn_ca (goodIn_r _ [12] (by decide +kernel) (by decide +kernel)) (goodIn_sub (fun _ h => List.mem_cons_of_mem _ (List.mem_append_right _ h)) (by decide +kernel))
set_option maxRecDepth 20000 in
theorem gX8_spillBowl_X9_put_n182 : GoodIn wsX8_spillBowl (wsX9_put) := ggX8_spillBowl_X9_put
set_option maxRecDepth 20000 in
theorem ggX8_spillBowl_X7_fall : GoodIn wsX8_spillBowl wsX7_fall := goodIn_r _ [17, 18, 19, 20, 72, 73, 74, 75, 76, 77, 78, 79, 80] (by decide +kernel) (by decide +kernel)
set_option maxRecDepth 20000 in
theorem gX8_spillBowl_X7_fall : GoodIn wsX8_spillBowl (wsV RX8 192 RX7 yX7_fall wsX7_fall) := goodIn_app (goodIn_of _ (by decide +kernel)) ggX8_spillBowl_X7_fall
set_option maxRecDepth 20000 in
theorem ggX8_spillBowl_X8_distance : GoodIn wsX8_spillBowl wsX8_distance := goodIn_r _ [25, 26, 27, 28, 29, 30, 31, 32, 24, 33, 4, 34, 35, 36, 37, 38, 45, 46, 47, 48, 49, 50, 51, 52, 53, 54, 55, 56, 57, 58, 59, 60, 61, 62, 63, 64, 65, 66, 67, 68, 69, 70, 71] (by decide +kernel) (by decide +kernel)
set_option maxRecDepth 20000 in
theorem gX8_spillBowl_X8_distance : GoodIn wsX8_spillBowl (wsV RX8 195 RX8 yX8_distance wsX8_distance) := goodIn_app (goodIn_of _ (by decide +kernel)) ggX8_spillBowl_X8_distance
set_option maxRecDepth 20000 in
theorem ggX8_spillBowl_X8_startle : GoodIn wsX8_spillBowl wsX8_startle := goodIn_r _ [42, 2, 6, 43, 44, 35, 36, 37, 24, 38, 4, 34, 45, 46, 47, 48, 49, 50, 51, 52, 53, 54, 55, 56, 57, 58, 72, 73, 74, 75, 76, 77, 78, 79, 80, 59, 60, 61, 62, 63, 64, 65, 66, 67, 68, 69, 70, 71] (by decide +kernel) (by decide +kernel)
set_option maxRecDepth 20000 in
theorem gX8_spillBowl_X8_startle : GoodIn wsX8_spillBowl (wsV RX8 201 RX8 yX8_startle wsX8_startle) := goodIn_app (goodIn_of _ (by decide +kernel)) ggX8_spillBowl_X8_startle
theorem dX8_spillBowl_0 : decode cX8_spillBowl 0 = .ok (.aload_n 0, 1) := by decide +kernel
theorem dX8_spillBowl_1 : decode cX8_spillBowl 1 = .ok (.getfield 42, 3) := by decide +kernel
theorem dX8_spillBowl_4 : decode cX8_spillBowl 4 = .ok (.aload_n 0, 1) := by decide +kernel
theorem dX8_spillBowl_5 : decode cX8_spillBowl 5 = .ok (.getfield 72, 3) := by decide +kernel
theorem dX8_spillBowl_8 : decode cX8_spillBowl 8 = .ok (.iconst 0, 1) := by decide +kernel
theorem dX8_spillBowl_9 : decode cX8_spillBowl 9 = .ok (.invokestatic 182, 3) := by decide +kernel
theorem dX8_spillBowl_12 : decode cX8_spillBowl 12 = .ok (.aload_n 0, 1) := by decide +kernel
theorem dX8_spillBowl_13 : decode cX8_spillBowl 13 = .ok (.getfield 39, 3) := by decide +kernel
theorem dX8_spillBowl_16 : decode cX8_spillBowl 16 = .ok (.aload_n 0, 1) := by decide +kernel
theorem dX8_spillBowl_17 : decode cX8_spillBowl 17 = .ok (.getfield 72, 3) := by decide +kernel
theorem dX8_spillBowl_20 : decode cX8_spillBowl 20 = .ok (.aload_n 0, 1) := by decide +kernel
theorem dX8_spillBowl_21 : decode cX8_spillBowl 21 = .ok (.getfield 12, 3) := by decide +kernel
theorem dX8_spillBowl_24 : decode cX8_spillBowl 24 = .ok (.getfield 186, 3) := by decide +kernel
theorem dX8_spillBowl_27 : decode cX8_spillBowl 27 = .ok (.invokestatic 182, 3) := by decide +kernel
theorem dX8_spillBowl_30 : decode cX8_spillBowl 30 = .ok (.aload_n 0, 1) := by decide +kernel
theorem dX8_spillBowl_31 : decode cX8_spillBowl 31 = .ok (.getfield 21, 3) := by decide +kernel
theorem dX8_spillBowl_34 : decode cX8_spillBowl 34 = .ok (.getfield 148, 3) := by decide +kernel
theorem dX8_spillBowl_37 : decode cX8_spillBowl 37 = .ok (.aload_n 0, 1) := by decide +kernel
theorem dX8_spillBowl_38 : decode cX8_spillBowl 38 = .ok (.getfield 72, 3) := by decide +kernel
theorem dX8_spillBowl_41 : decode cX8_spillBowl 41 = .ok (.if_icmp .ne 20, 3) := by decide +kernel
theorem dX8_spillBowl_44 : decode cX8_spillBowl 44 = .ok (.aload_n 0, 1) := by decide +kernel
theorem dX8_spillBowl_45 : decode cX8_spillBowl 45 = .ok (.getfield 21, 3) := by decide +kernel
theorem dX8_spillBowl_48 : decode cX8_spillBowl 48 = .ok (.aload_n 0, 1) := by decide +kernel
theorem dX8_spillBowl_49 : decode cX8_spillBowl 49 = .ok (.getfield 12, 3) := by decide +kernel
theorem dX8_spillBowl_52 : decode cX8_spillBowl 52 = .ok (.getfield 189, 3) := by decide +kernel
theorem dX8_spillBowl_55 : decode cX8_spillBowl 55 = .ok (.invokevirtual 192, 3) := by decide +kernel
theorem dX8_spillBowl_58 : decode cX8_spillBowl 58 = .ok (.goto 43, 3) := by decide +kernel
theorem dX8_spillBowl_61 : decode cX8_spillBowl 61 = .ok (.aload_n 0, 1) := by decide +kernel
theorem dX8_spillBowl_62 : decode cX8_spillBowl 62 = .ok (.getfield 21, 3) := by decide +kernel
theorem dX8_spillBowl_65 : decode cX8_spillBowl 65 = .ok (.getfield 148, 3) := by decide +kernel
theorem dX8_spillBowl_68 : decode cX8_spillBowl 68 = .ok (.iconst (-1), 1) := by decide +kernel
theorem dX8_spillBowl_69 : decode cX8_spillBowl 69 = .ok (.if_icmp .eq 32, 3) := by decide +kernel
theorem dX8_spillBowl_72 : decode cX8_spillBowl 72 = .ok (.aload_n 0, 1) := by decide +kernel
theorem dX8_spillBowl_73 : decode cX8_spillBowl 73 = .ok (.aload_n 0, 1) := by decide +kernel
theorem dX8_spillBowl_74 : decode cX8_spillBowl 74 = .ok (.getfield 21, 3) := by decide +kernel
theorem dX8_spillBowl_77 : decode cX8_spillBowl 77 = .ok (.getfield 148, 3) := by decide +kernel
theorem dX8_spillBowl_80 : decode cX8_spillBowl 80 = .ok (.aload_n 0, 1) := by decide +kernel
theorem dX8_spillBowl_81 : decode cX8_spillBowl 81 = .ok (.getfield 72, 3) := by decide +kernel
theorem dX8_spillBowl_84 : decode cX8_spillBowl 84 = .ok (.invokevirtual 195, 3) := by decide +kernel
theorem dX8_spillBowl_87 : decode cX8_spillBowl 87 = .ok (.aload_n 0, 1) := by decide +kernel
theorem dX8_spillBowl_88 : decode cX8_spillBowl 88 = .ok (.getfield 12, 3) := by decide +kernel
theorem dX8_spillBowl_91 : decode cX8_spillBowl 91 = .ok (.getfield 198, 3) := by decide +kernel
theorem dX8_spillBowl_94 : decode cX8_spillBowl 94 = .ok (.if_icmp .gt 7, 3) := by decide +kernel
theorem dX8_spillBowl_97 : decode cX8_spillBowl 97 = .ok (.aload_n 0, 1) := by decide +kernel
theorem dX8_spillBowl_98 : decode cX8_spillBowl 98 = .ok (.invokevirtual 201, 3) := by decide +kernel
theorem dX8_spillBowl_101 : decode cX8_spillBowl 101 = .ok (.return_, 1) := by decide +kernel
set_option maxRecDepth 20000 in
theorem ggX8_startle_X8_columnOf : GoodIn wsX8_startle wsX8_columnOf := goodIn_r _ [9, 10, 11, 12, 13, 14, 15, 16, 17, 18, 19, 20, 21, 22, 23, 24, 25, 35, 36, 37, 38, 39, 40, 41, 42, 43, 44, 45, 46, 47] (by decide +kernel) (by decide +kernel)
set_option maxRecDepth 20000 in
theorem gX8_startle_X8_columnOf : GoodIn wsX8_startle (wsV RX8 123 RX8 yX8_columnOf wsX8_columnOf) := goodIn_app (goodIn_of _ (by decide +kernel)) ggX8_startle_X8_columnOf
theorem dX8_startle_0 : decode cX8_startle 0 = .ok (.aload_n 0, 1) := by decide +kernel
theorem dX8_startle_1 : decode cX8_startle 1 = .ok (.aload_n 0, 1) := by decide +kernel
theorem dX8_startle_2 : decode cX8_startle 2 = .ok (.getfield 72, 3) := by decide +kernel
theorem dX8_startle_5 : decode cX8_startle 5 = .ok (.invokevirtual 123, 3) := by decide +kernel
theorem dX8_startle_8 : decode cX8_startle 8 = .ok (.istore_n 1, 1) := by decide +kernel
theorem dX8_startle_9 : decode cX8_startle 9 = .ok (.iload_n 1, 1) := by decide +kernel
theorem dX8_startle_10 : decode cX8_startle 10 = .ok (.aload_n 0, 1) := by decide +kernel
theorem dX8_startle_11 : decode cX8_startle 11 = .ok (.getfield 21, 3) := by decide +kernel
theorem dX8_startle_14 : decode cX8_startle 14 = .ok (.getfield 204, 3) := by decide +kernel
theorem dX8_startle_17 : decode cX8_startle 17 = .ok (.if_icmp .eq 26, 3) := by decide +kernel
theorem dX8_startle_20 : decode cX8_startle 20 = .ok (.aload_n 0, 1) := by decide +kernel
theorem dX8_startle_21 : decode cX8_startle 21 = .ok (.getfield 21, 3) := by decide +kernel
theorem dX8_startle_24 : decode cX8_startle 24 = .ok (.iload_n 1, 1) := by decide +kernel
theorem dX8_startle_25 : decode cX8_startle 25 = .ok (.aload_n 0, 1) := by decide +kernel
theorem dX8_startle_26 : decode cX8_startle 26 = .ok (.getfield 21, 3) := by decide +kernel
theorem dX8_startle_29 : decode cX8_startle 29 = .ok (.getfield 204, 3) := by decide +kernel
theorem dX8_startle_32 : decode cX8_startle 32 = .ok (.if_icmp .ge 7, 3) := by decide +kernel
theorem dX8_startle_35 : decode cX8_startle 35 = .ok (.iconst 1, 1) := by decide +kernel
theorem dX8_startle_36 : decode cX8_startle 36 = .ok (.goto 4, 3) := by decide +kernel
theorem dX8_startle_39 : decode cX8_startle 39 = .ok (.iconst 0, 1) := by decide +kernel
theorem dX8_startle_40 : decode cX8_startle 40 = .ok (.putfield 207, 3) := by decide +kernel
theorem dX8_startle_43 : decode cX8_startle 43 = .ok (.return_, 1) := by decide +kernel
set_option maxRecDepth 20000 in
theorem ggX8_distance_X8_rowOf : GoodIn wsX8_distance wsX8_rowOf := goodIn_r _ [9, 10, 11, 16, 17, 18, 19, 20, 21, 22, 23, 24, 25, 26, 27, 28, 29, 30, 31, 32, 33, 34, 35, 36, 37, 38, 39, 40, 41, 42] (by decide +kernel) (by decide +kernel)
set_option maxRecDepth 20000 in
theorem gX8_distance_X8_rowOf : GoodIn wsX8_distance (wsV RX8 116 RX8 yX8_rowOf wsX8_rowOf) := goodIn_app (goodIn_of _ (by decide +kernel)) ggX8_distance_X8_rowOf
set_option maxRecDepth 20000 in
theorem ggX8_distance_X8_columnOf : GoodIn wsX8_distance wsX8_columnOf := goodIn_r _ [15, 10, 11, 16, 17, 18, 19, 20, 21, 22, 23, 24, 25, 26, 27, 28, 29, 30, 31, 32, 33, 34, 35, 36, 37, 38, 39, 40, 41, 42] (by decide +kernel) (by decide +kernel)
set_option maxRecDepth 20000 in
theorem gX8_distance_X8_columnOf : GoodIn wsX8_distance (wsV RX8 123 RX8 yX8_columnOf wsX8_columnOf) := goodIn_app (goodIn_of _ (by decide +kernel)) ggX8_distance_X8_columnOf
theorem dX8_distance_0 : decode cX8_distance 0 = .ok (.aload_n 0, 1) := by decide +kernel
theorem dX8_distance_1 : decode cX8_distance 1 = .ok (.iload_n 1, 1) := by decide +kernel
theorem dX8_distance_2 : decode cX8_distance 2 = .ok (.invokevirtual 116, 3) := by decide +kernel
theorem dX8_distance_5 : decode cX8_distance 5 = .ok (.aload_n 0, 1) := by decide +kernel
theorem dX8_distance_6 : decode cX8_distance 6 = .ok (.iload_n 2, 1) := by decide +kernel
theorem dX8_distance_7 : decode cX8_distance 7 = .ok (.invokevirtual 116, 3) := by decide +kernel
theorem dX8_distance_10 : decode cX8_distance 10 = .ok (.isub, 1) := by decide +kernel
theorem dX8_distance_11 : decode cX8_distance 11 = .ok (.invokestatic 211, 3) := by decide +kernel
theorem dX8_distance_14 : decode cX8_distance 14 = .ok (.aload_n 0, 1) := by decide +kernel
theorem dX8_distance_15 : decode cX8_distance 15 = .ok (.iload_n 1, 1) := by decide +kernel
theorem dX8_distance_16 : decode cX8_distance 16 = .ok (.invokevirtual 123, 3) := by decide +kernel
theorem dX8_distance_19 : decode cX8_distance 19 = .ok (.aload_n 0, 1) := by decide +kernel
theorem dX8_distance_20 : decode cX8_distance 20 = .ok (.iload_n 2, 1) := by decide +kernel
theorem dX8_distance_21 : decode cX8_distance 21 = .ok (.invokevirtual 123, 3) := by decide +kernel
theorem dX8_distance_24 : decode cX8_distance 24 = .ok (.isub, 1) := by decide +kernel
theorem dX8_distance_25 : decode cX8_distance 25 = .ok (.invokestatic 211, 3) := by decide +kernel
theorem dX8_distance_28 : decode cX8_distance 28 = .ok (.iadd, 1) := by decide +kernel
theorem dX8_distance_29 : decode cX8_distance 29 = .ok (.ireturn, 1) := by decide +kernel
set_option maxRecDepth 20000 in
theorem ggX8_walk_X8_neighbor : GoodIn wsX8_walk wsX8_neighbor := goodIn_r _ [11, 4, 12, 13, 65, 66, 67, 68, 69, 70, 71, 72, 73, 74, 75, 76, 77, 78, 88, 89, 90, 91, 92, 93, 94, 95, 96, 97, 98, 99, 100] (by decide +kernel) (by decide +kernel)
set_option maxRecDepth 20000 in
theorem gX8_walk_X8_neighbor : GoodIn wsX8_walk (wsV RX8 179 RX8 yX8_neighbor wsX8_neighbor) := goodIn_app (goodIn_of _ (by decide +kernel)) ggX8_walk_X8_neighbor
set_option maxRecDepth 20000 in
theorem ggX8_walk_X8_canEnter : GoodIn wsX8_walk wsX8_canEnter := goodIn_ca (goodIn_r _ [17, 18, 19, 20, 21, 22, 10, 23, 4, 12, 24, 25, 26, 65, 66, 67, 68, 69, 70, 71, 72, 73, 74, 75, 76, 77, 78, 88, 89, 90, 91, 92, 93, 94, 95, 96, 97, 98, 99, 100] (by decide +kernel) (by decide +kernel)) (goodIn_sub (fun _ h => List.mem_cons_of_mem _ (List.mem_append_right _ h)) (by decide +kernel))
set_option maxRecDepth 20000 in
theorem gX8_walk_X8_canEnter : GoodIn wsX8_walk (wsV RX8 214 RX8 yX8_canEnter wsX8_canEnter) := goodIn_app (goodIn_of _ (by decide +kernel)) ggX8_walk_X8_canEnter
set_option maxRecDepth 20000 in
theorem ggX8_walk_X7_turnBack : GoodIn wsX8_walk wsX7_turnBack := goodIn_r _ [31, 32, 33, 79, 80, 81, 82, 83, 84, 85, 86, 87] (by decide +kernel) (by decide +kernel)
set_option maxRecDepth 20000 in
theorem gX8_walk_X7_turnBack : GoodIn wsX8_walk (wsV RX8 217 RX7 yX7_turnBack wsX7_turnBack) := goodIn_app (goodIn_of _ (by decide +kernel)) ggX8_walk_X7_turnBack
set_option maxRecDepth 20000 in
theorem ggX8_walk_X8_slideRug : GoodIn wsX8_walk wsX8_slideRug := goodIn_ca (goodIn_r _ [37, 38, 39, 24, 25, 26, 7, 8, 9, 10, 11, 4, 12, 13, 40, 41, 42, 43, 44, 19, 45, 46, 65, 66, 67, 68, 69, 70, 71, 72, 73, 74, 75, 76, 77, 78, 88, 89, 90, 91, 92, 93, 94, 95, 96, 97, 98, 99, 100] (by decide +kernel) (by decide +kernel)) (goodIn_sub (fun _ h => List.mem_cons_of_mem _ (List.mem_append_right _ h)) (by decide +kernel))
set_option maxRecDepth 20000 in
theorem gX8_walk_X8_slideRug : GoodIn wsX8_walk (wsV RX8 220 RX8 yX8_slideRug wsX8_slideRug) := goodIn_app (goodIn_of _ (by decide +kernel)) ggX8_walk_X8_slideRug
set_option maxRecDepth 20000 in
theorem ggX8_walk_X8_enter : GoodIn wsX8_walk wsX8_enter := goodIn_ca (goodIn_r _ [50, 1, 3, 51, 52, 20, 21, 22, 10, 23, 4, 12, 53, 54, 55, 30, 56, 57, 58, 59, 24, 25, 26, 45, 46, 65, 66, 67, 68, 69, 70, 71, 72, 73, 74, 75, 76, 77, 78, 79, 80, 81, 82, 83, 84, 85, 86, 87, 88, 89, 90, 91, 92, 93, 94, 95, 96, 97, 98, 99, 100] (by decide +kernel) (by decide +kernel)) (goodIn_sub (fun _ h => List.mem_cons_of_mem _ (List.mem_append_right _ h)) (by decide +kernel))
set_option maxRecDepth 20000 in
theorem gX8_walk_X8_enter : GoodIn wsX8_walk (wsV RX8 224 RX8 yX8_enter wsX8_enter) := goodIn_app (goodIn_of _ (by decide +kernel)) ggX8_walk_X8_enter
set_option maxRecDepth 20000 in
theorem ggX8_walk_X7_pause : GoodIn wsX8_walk wsX7_pause := goodIn_r _ [63, 64, 59, 79, 80, 81, 82, 83, 84, 85, 86, 87] (by decide +kernel) (by decide +kernel)
set_option maxRecDepth 20000 in
theorem gX8_walk_X7_pause : GoodIn wsX8_walk (wsV RX8 233 RX7 yX7_pause wsX7_pause) := goodIn_app (goodIn_of _ (by decide +kernel)) ggX8_walk_X7_pause
theorem dX8_walk_0 : decode cX8_walk 0 = .ok (.iconst 0, 1) := by decide +kernel
theorem dX8_walk_1 : decode cX8_walk 1 = .ok (.istore_n 2, 1) := by decide +kernel
theorem dX8_walk_2 : decode cX8_walk 2 = .ok (.iload_n 2, 1) := by decide +kernel
theorem dX8_walk_3 : decode cX8_walk 3 = .ok (.iload_n 1, 1) := by decide +kernel
theorem dX8_walk_4 : decode cX8_walk 4 = .ok (.if_icmp .ge 108, 3) := by decide +kernel
theorem dX8_walk_7 : decode cX8_walk 7 = .ok (.aload_n 0, 1) := by decide +kernel
theorem dX8_walk_8 : decode cX8_walk 8 = .ok (.getfield 21, 3) := by decide +kernel
theorem dX8_walk_11 : decode cX8_walk 11 = .ok (.getfield 207, 3) := by decide +kernel
theorem dX8_walk_14 : decode cX8_walk 14 = .ok (.ifCond .eq 7, 3) := by decide +kernel
theorem dX8_walk_17 : decode cX8_walk 17 = .ok (.iconst 4, 1) := by decide +kernel
theorem dX8_walk_18 : decode cX8_walk 18 = .ok (.goto 4, 3) := by decide +kernel
theorem dX8_walk_21 : decode cX8_walk 21 = .ok (.iconst 3, 1) := by decide +kernel
theorem dX8_walk_22 : decode cX8_walk 22 = .ok (.istore_n 3, 1) := by decide +kernel
theorem dX8_walk_23 : decode cX8_walk 23 = .ok (.aload_n 0, 1) := by decide +kernel
theorem dX8_walk_24 : decode cX8_walk 24 = .ok (.aload_n 0, 1) := by decide +kernel
theorem dX8_walk_25 : decode cX8_walk 25 = .ok (.getfield 21, 3) := by decide +kernel
theorem dX8_walk_28 : decode cX8_walk 28 = .ok (.getfield 148, 3) := by decide +kernel
theorem dX8_walk_31 : decode cX8_walk 31 = .ok (.iload_n 3, 1) := by decide +kernel
theorem dX8_walk_32 : decode cX8_walk 32 = .ok (.invokevirtual 179, 3) := by decide +kernel
theorem dX8_walk_35 : decode cX8_walk 35 = .ok (.istore 4, 2) := by decide +kernel
theorem dX8_walk_37 : decode cX8_walk 37 = .ok (.aload_n 0, 1) := by decide +kernel
theorem dX8_walk_38 : decode cX8_walk 38 = .ok (.iload 4, 2) := by decide +kernel
theorem dX8_walk_40 : decode cX8_walk 40 = .ok (.invokevirtual 214, 3) := by decide +kernel
theorem dX8_walk_43 : decode cX8_walk 43 = .ok (.ifCond .ne 13, 3) := by decide +kernel
theorem dX8_walk_46 : decode cX8_walk 46 = .ok (.aload_n 0, 1) := by decide +kernel
theorem dX8_walk_47 : decode cX8_walk 47 = .ok (.getfield 21, 3) := by decide +kernel
theorem dX8_walk_50 : decode cX8_walk 50 = .ok (.invokevirtual 217, 3) := by decide +kernel
theorem dX8_walk_53 : decode cX8_walk 53 = .ok (.goto 53, 3) := by decide +kernel
theorem dX8_walk_56 : decode cX8_walk 56 = .ok (.aload_n 0, 1) := by decide +kernel
theorem dX8_walk_57 : decode cX8_walk 57 = .ok (.iload 4, 2) := by decide +kernel
theorem dX8_walk_59 : decode cX8_walk 59 = .ok (.iload_n 3, 1) := by decide +kernel
theorem dX8_walk_60 : decode cX8_walk 60 = .ok (.invokevirtual 220, 3) := by decide +kernel
theorem dX8_walk_63 : decode cX8_walk 63 = .ok (.aload_n 0, 1) := by decide +kernel
theorem dX8_walk_64 : decode cX8_walk 64 = .ok (.iload 4, 2) := by decide +kernel
theorem dX8_walk_66 : decode cX8_walk 66 = .ok (.invokevirtual 224, 3) := by decide +kernel
theorem dX8_walk_69 : decode cX8_walk 69 = .ok (.aload_n 0, 1) := by decide +kernel
theorem dX8_walk_70 : decode cX8_walk 70 = .ok (.getfield 12, 3) := by decide +kernel
theorem dX8_walk_73 : decode cX8_walk 73 = .ok (.getfield 227, 3) := by decide +kernel
theorem dX8_walk_76 : decode cX8_walk 76 = .ok (.ifCond .le 30, 3) := by decide +kernel
theorem dX8_walk_79 : decode cX8_walk 79 = .ok (.aload_n 0, 1) := by decide +kernel
theorem dX8_walk_80 : decode cX8_walk 80 = .ok (.getfield 21, 3) := by decide +kernel
theorem dX8_walk_83 : decode cX8_walk 83 = .ok (.getfield 230, 3) := by decide +kernel
theorem dX8_walk_86 : decode cX8_walk 86 = .ok (.aload_n 0, 1) := by decide +kernel
theorem dX8_walk_87 : decode cX8_walk 87 = .ok (.getfield 12, 3) := by decide +kernel
theorem dX8_walk_90 : decode cX8_walk 90 = .ok (.getfield 227, 3) := by decide +kernel
theorem dX8_walk_93 : decode cX8_walk 93 = .ok (.if_icmp .lt 13, 3) := by decide +kernel
theorem dX8_walk_96 : decode cX8_walk 96 = .ok (.aload_n 0, 1) := by decide +kernel
theorem dX8_walk_97 : decode cX8_walk 97 = .ok (.getfield 21, 3) := by decide +kernel
theorem dX8_walk_100 : decode cX8_walk 100 = .ok (.invokevirtual 233, 3) := by decide +kernel
theorem dX8_walk_103 : decode cX8_walk 103 = .ok (.goto 9, 3) := by decide +kernel
theorem dX8_walk_106 : decode cX8_walk 106 = .ok (.iinc 2 1, 3) := by decide +kernel
theorem dX8_walk_109 : decode cX8_walk 109 = .ok (.goto (-107), 3) := by decide +kernel
theorem dX8_walk_112 : decode cX8_walk 112 = .ok (.return_, 1) := by decide +kernel
set_option maxRecDepth 20000 in
theorem ggX8_canEnter_X8_columnOf : GoodIn wsX8_canEnter wsX8_columnOf := goodIn_r _ [7, 8, 9, 13, 14, 15, 16, 17, 18, 19, 20, 21, 22, 23, 24, 25, 26, 27, 28, 29, 30, 31, 32, 33, 34, 35, 36, 37, 38, 39] (by decide +kernel) (by decide +kernel)
set_option maxRecDepth 20000 in
theorem gX8_canEnter_X8_columnOf : GoodIn wsX8_canEnter (wsV RX8 123 RX8 yX8_columnOf wsX8_columnOf) := goodIn_app (goodIn_of _ (by decide +kernel)) ggX8_canEnter_X8_columnOf
set_option maxRecDepth 20000 in
theorem ggX8_canEnter_X9_at : GoodIn wsX8_canEnter wsX9_at := goodIn_ca (goodIn_r _ [12] (by decide +kernel) (by decide +kernel)) (goodIn_sub (fun _ h => List.mem_cons_of_mem _ (List.mem_append_right _ h)) (by decide +kernel))
set_option maxRecDepth 20000 in
theorem gX8_canEnter_X9_at_n126 : GoodIn wsX8_canEnter (wsX9_at) := ggX8_canEnter_X9_at
theorem dX8_canEnter_0 : decode cX8_canEnter 0 = .ok (.iload_n 1, 1) := by decide +kernel
theorem dX8_canEnter_1 : decode cX8_canEnter 1 = .ok (.iconst (-1), 1) := by decide +kernel
theorem dX8_canEnter_2 : decode cX8_canEnter 2 = .ok (.if_icmp .eq 33, 3) := by decide +kernel
theorem dX8_canEnter_5 : decode cX8_canEnter 5 = .ok (.aload_n 0, 1) := by decide +kernel
theorem dX8_canEnter_6 : decode cX8_canEnter 6 = .ok (.getfield 32, 3) := by decide +kernel
theorem dX8_canEnter_9 : decode cX8_canEnter 9 = .ok (.aload_n 0, 1) := by decide +kernel
theorem dX8_canEnter_10 : decode cX8_canEnter 10 = .ok (.iload_n 1, 1) := by decide +kernel
theorem dX8_canEnter_11 : decode cX8_canEnter 11 = .ok (.invokevirtual 123, 3) := by decide +kernel
theorem dX8_canEnter_14 : decode cX8_canEnter 14 = .ok (.invokestatic 126, 3) := by decide +kernel
theorem dX8_canEnter_17 : decode cX8_canEnter 17 = .ok (.ifCond .ne 18, 3) := by decide +kernel
theorem dX8_canEnter_20 : decode cX8_canEnter 20 = .ok (.aload_n 0, 1) := by decide +kernel
theorem dX8_canEnter_21 : decode cX8_canEnter 21 = .ok (.getfield 39, 3) := by decide +kernel
theorem dX8_canEnter_24 : decode cX8_canEnter 24 = .ok (.iload_n 1, 1) := by decide +kernel
theorem dX8_canEnter_25 : decode cX8_canEnter 25 = .ok (.invokestatic 126, 3) := by decide +kernel
theorem dX8_canEnter_28 : decode cX8_canEnter 28 = .ok (.ifCond .ne 7, 3) := by decide +kernel
theorem dX8_canEnter_31 : decode cX8_canEnter 31 = .ok (.iconst 1, 1) := by decide +kernel
theorem dX8_canEnter_32 : decode cX8_canEnter 32 = .ok (.goto 4, 3) := by decide +kernel
theorem dX8_canEnter_35 : decode cX8_canEnter 35 = .ok (.iconst 0, 1) := by decide +kernel
theorem dX8_canEnter_36 : decode cX8_canEnter 36 = .ok (.ireturn, 1) := by decide +kernel
set_option maxRecDepth 20000 in
theorem ggX8_slideRug_X9_at : GoodIn wsX8_slideRug wsX9_at := goodIn_ca (goodIn_r _ [5] (by decide +kernel) (by decide +kernel)) (goodIn_sub (fun _ h => List.mem_cons_of_mem _ (List.mem_append_right _ h)) (by decide +kernel))
set_option maxRecDepth 20000 in
theorem gX8_slideRug_X9_at_n126 : GoodIn wsX8_slideRug (wsX9_at) := ggX8_slideRug_X9_at
set_option maxRecDepth 20000 in
theorem ggX8_slideRug_X8_neighbor : GoodIn wsX8_slideRug wsX8_neighbor := goodIn_r _ [10, 11, 12, 13, 22, 23, 24, 25, 26, 27, 28, 29, 30, 31, 32, 33, 34, 35, 36, 37, 38, 39, 40, 41, 42, 43, 44, 45, 46, 47, 48] (by decide +kernel) (by decide +kernel)
set_option maxRecDepth 20000 in
theorem gX8_slideRug_X8_neighbor : GoodIn wsX8_slideRug (wsV RX8 179 RX8 yX8_neighbor wsX8_neighbor) := goodIn_app (goodIn_of _ (by decide +kernel)) ggX8_slideRug_X8_neighbor
set_option maxRecDepth 20000 in
theorem ggX8_slideRug_X8_hasRoomForBowl : GoodIn wsX8_slideRug wsX8_hasRoomForBowl := goodIn_ca (goodIn_r _ [17, 18, 19, 3, 4, 5, 22, 23, 24, 25, 26, 27, 28, 29, 30, 31, 32, 33, 34, 35] (by decide +kernel) (by decide +kernel)) (goodIn_sub (fun _ h => List.mem_cons_of_mem _ (List.mem_append_right _ h)) (by decide +kernel))
set_option maxRecDepth 20000 in
theorem gX8_slideRug_X8_hasRoomForBowl : GoodIn wsX8_slideRug (wsV RX8 236 RX8 yX8_hasRoomForBowl wsX8_hasRoomForBowl) := goodIn_app (goodIn_of _ (by decide +kernel)) ggX8_slideRug_X8_hasRoomForBowl
set_option maxRecDepth 20000 in
theorem ggX8_slideRug_X9_put : GoodIn wsX8_slideRug wsX9_put := goodIn_ca (goodIn_r _ [21] (by decide +kernel) (by decide +kernel)) (goodIn_sub (fun _ h => List.mem_cons_of_mem _ (List.mem_append_right _ h)) (by decide +kernel))
set_option maxRecDepth 20000 in
theorem gX8_slideRug_X9_put_n182 : GoodIn wsX8_slideRug (wsX9_put) := ggX8_slideRug_X9_put
theorem dX8_slideRug_0 : decode cX8_slideRug 0 = .ok (.aload_n 0, 1) := by decide +kernel
theorem dX8_slideRug_1 : decode cX8_slideRug 1 = .ok (.getfield 45, 3) := by decide +kernel
theorem dX8_slideRug_4 : decode cX8_slideRug 4 = .ok (.iload_n 1, 1) := by decide +kernel
theorem dX8_slideRug_5 : decode cX8_slideRug 5 = .ok (.invokestatic 126, 3) := by decide +kernel
theorem dX8_slideRug_8 : decode cX8_slideRug 8 = .ok (.ifCond .ne 4, 3) := by decide +kernel
theorem dX8_slideRug_11 : decode cX8_slideRug 11 = .ok (.return_, 1) := by decide +kernel
theorem dX8_slideRug_12 : decode cX8_slideRug 12 = .ok (.aload_n 0, 1) := by decide +kernel
theorem dX8_slideRug_13 : decode cX8_slideRug 13 = .ok (.iload_n 1, 1) := by decide +kernel
theorem dX8_slideRug_14 : decode cX8_slideRug 14 = .ok (.iload_n 2, 1) := by decide +kernel
theorem dX8_slideRug_15 : decode cX8_slideRug 15 = .ok (.invokevirtual 179, 3) := by decide +kernel
theorem dX8_slideRug_18 : decode cX8_slideRug 18 = .ok (.istore_n 3, 1) := by decide +kernel
theorem dX8_slideRug_19 : decode cX8_slideRug 19 = .ok (.iload_n 3, 1) := by decide +kernel
theorem dX8_slideRug_20 : decode cX8_slideRug 20 = .ok (.iconst (-1), 1) := by decide +kernel
theorem dX8_slideRug_21 : decode cX8_slideRug 21 = .ok (.if_icmp .eq 50, 3) := by decide +kernel
theorem dX8_slideRug_24 : decode cX8_slideRug 24 = .ok (.aload_n 0, 1) := by decide +kernel
theorem dX8_slideRug_25 : decode cX8_slideRug 25 = .ok (.getfield 45, 3) := by decide +kernel
theorem dX8_slideRug_28 : decode cX8_slideRug 28 = .ok (.iload_n 3, 1) := by decide +kernel
