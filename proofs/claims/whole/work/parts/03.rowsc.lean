theorem dX10_doesColumn_6 : decode cX10_doesColumn 6 = .ok (.aload_n 0, 1) := by decide +kernel
theorem dX10_doesColumn_7 : decode cX10_doesColumn 7 = .ok (.getfield 9, 3) := by decide +kernel
theorem dX10_doesColumn_10 : decode cX10_doesColumn 10 = .ok (.iconst 1, 1) := by decide +kernel
theorem dX10_doesColumn_11 : decode cX10_doesColumn 11 = .ok (.iaload, 1) := by decide +kernel
theorem dX10_doesColumn_12 : decode cX10_doesColumn 12 = .ok (.iconst 1, 1) := by decide +kernel
theorem dX10_doesColumn_13 : decode cX10_doesColumn 13 = .ok (.isub, 1) := by decide +kernel
theorem dX10_doesColumn_14 : decode cX10_doesColumn 14 = .ok (.invokevirtual 108, 3) := by decide +kernel
theorem dX10_doesColumn_17 : decode cX10_doesColumn 17 = .ok (.istore_n 2, 1) := by decide +kernel
theorem dX10_doesColumn_18 : decode cX10_doesColumn 18 = .ok (.iconst 0, 1) := by decide +kernel
theorem dX10_doesColumn_19 : decode cX10_doesColumn 19 = .ok (.istore_n 3, 1) := by decide +kernel
theorem dX10_doesColumn_20 : decode cX10_doesColumn 20 = .ok (.iload_n 3, 1) := by decide +kernel
theorem dX10_doesColumn_21 : decode cX10_doesColumn 21 = .ok (.aload_n 0, 1) := by decide +kernel
theorem dX10_doesColumn_22 : decode cX10_doesColumn 22 = .ok (.getfield 9, 3) := by decide +kernel
theorem dX10_doesColumn_25 : decode cX10_doesColumn 25 = .ok (.iconst 0, 1) := by decide +kernel
theorem dX10_doesColumn_26 : decode cX10_doesColumn 26 = .ok (.iaload, 1) := by decide +kernel
theorem dX10_doesColumn_27 : decode cX10_doesColumn 27 = .ok (.if_icmp .ge 31, 3) := by decide +kernel
theorem dX10_doesColumn_30 : decode cX10_doesColumn 30 = .ok (.aload_n 0, 1) := by decide +kernel
theorem dX10_doesColumn_31 : decode cX10_doesColumn 31 = .ok (.getfield 59, 3) := by decide +kernel
theorem dX10_doesColumn_34 : decode cX10_doesColumn 34 = .ok (.ifCond .ne 24, 3) := by decide +kernel
theorem dX10_doesColumn_37 : decode cX10_doesColumn 37 = .ok (.aload_n 0, 1) := by decide +kernel
theorem dX10_doesColumn_38 : decode cX10_doesColumn 38 = .ok (.iload_n 1, 1) := by decide +kernel
theorem dX10_doesColumn_39 : decode cX10_doesColumn 39 = .ok (.iload_n 3, 1) := by decide +kernel
theorem dX10_doesColumn_40 : decode cX10_doesColumn 40 = .ok (.aload_n 0, 1) := by decide +kernel
theorem dX10_doesColumn_41 : decode cX10_doesColumn 41 = .ok (.getfield 9, 3) := by decide +kernel
theorem dX10_doesColumn_44 : decode cX10_doesColumn 44 = .ok (.iconst 1, 1) := by decide +kernel
theorem dX10_doesColumn_45 : decode cX10_doesColumn 45 = .ok (.iaload, 1) := by decide +kernel
theorem dX10_doesColumn_46 : decode cX10_doesColumn 46 = .ok (.imul, 1) := by decide +kernel
theorem dX10_doesColumn_47 : decode cX10_doesColumn 47 = .ok (.iload_n 2, 1) := by decide +kernel
theorem dX10_doesColumn_48 : decode cX10_doesColumn 48 = .ok (.iadd, 1) := by decide +kernel
theorem dX10_doesColumn_49 : decode cX10_doesColumn 49 = .ok (.invokevirtual 159, 3) := by decide +kernel
theorem dX10_doesColumn_52 : decode cX10_doesColumn 52 = .ok (.iinc 3 1, 3) := by decide +kernel
theorem dX10_doesColumn_55 : decode cX10_doesColumn 55 = .ok (.goto (-35), 3) := by decide +kernel
theorem dX10_doesColumn_58 : decode cX10_doesColumn 58 = .ok (.aload_n 0, 1) := by decide +kernel
theorem dX10_doesColumn_59 : decode cX10_doesColumn 59 = .ok (.invokevirtual 112, 3) := by decide +kernel
theorem dX10_doesColumn_62 : decode cX10_doesColumn 62 = .ok (.return_, 1) := by decide +kernel
set_option maxRecDepth 20000 in
theorem ggX10_doesIfCan_X10_canDo : GoodIn wsX10_doesIfCan wsX10_canDo := goodIn_ca (goodIn_r _ [5, 6, 7, 8, 9, 4, 10, 11, 12, 13, 14, 30, 31, 32, 33, 34, 35, 36, 37, 38, 39, 40, 41, 42, 43, 44, 45, 46, 47, 48, 49, 50, 51] (by decide +kernel) (by decide +kernel)) (goodIn_sub (fun _ h => List.mem_cons_of_mem _ (List.mem_append_right _ h)) (by decide +kernel))
set_option maxRecDepth 20000 in
theorem gX10_doesIfCan_X10_canDo : GoodIn wsX10_doesIfCan (wsV RX10 151 RX10 yX10_canDo wsX10_canDo) := goodIn_app (goodIn_of _ (by decide +kernel)) ggX10_doesIfCan_X10_canDo
set_option maxRecDepth 20000 in
theorem ggX10_doesIfCan_X10_does : GoodIn wsX10_doesIfCan wsX10_does := goodIn_ca (goodIn_r _ [18, 6, 19, 20, 21, 4, 22, 23, 24, 25, 26, 27, 28, 29, 30, 31, 32, 33, 34, 35, 36, 37, 38, 39, 40, 41, 42, 43, 44, 45, 46, 47, 48, 49, 50, 51] (by decide +kernel) (by decide +kernel)) (goodIn_sub (fun _ h => List.mem_cons_of_mem _ (List.mem_append_right _ h)) (by decide +kernel))
set_option maxRecDepth 20000 in
theorem gX10_doesIfCan_X10_does : GoodIn wsX10_doesIfCan (wsV RX10 155 RX10 yX10_does wsX10_does) := goodIn_app (goodIn_of _ (by decide +kernel)) ggX10_doesIfCan_X10_does
theorem dX10_doesIfCan_0 : decode cX10_doesIfCan 0 = .ok (.aload_n 0, 1) := by decide +kernel
theorem dX10_doesIfCan_1 : decode cX10_doesIfCan 1 = .ok (.iload_n 1, 1) := by decide +kernel
theorem dX10_doesIfCan_2 : decode cX10_doesIfCan 2 = .ok (.iload_n 2, 1) := by decide +kernel
theorem dX10_doesIfCan_3 : decode cX10_doesIfCan 3 = .ok (.invokevirtual 151, 3) := by decide +kernel
theorem dX10_doesIfCan_6 : decode cX10_doesIfCan 6 = .ok (.ifCond .eq 9, 3) := by decide +kernel
theorem dX10_doesIfCan_9 : decode cX10_doesIfCan 9 = .ok (.aload_n 0, 1) := by decide +kernel
theorem dX10_doesIfCan_10 : decode cX10_doesIfCan 10 = .ok (.iload_n 1, 1) := by decide +kernel
theorem dX10_doesIfCan_11 : decode cX10_doesIfCan 11 = .ok (.iload_n 2, 1) := by decide +kernel
theorem dX10_doesIfCan_12 : decode cX10_doesIfCan 12 = .ok (.invokevirtual 155, 3) := by decide +kernel
theorem dX10_doesIfCan_15 : decode cX10_doesIfCan 15 = .ok (.return_, 1) := by decide +kernel
set_option maxRecDepth 20000 in
theorem ggX10_doesItem_X10_isWord : GoodIn wsX10_doesItem wsX10_isWord := goodIn_ca (goodIn_r _ [5, 6, 7, 8, 9, 10, 11, 4, 12, 13, 14, 15, 16, 17, 18, 19, 20, 21, 22, 23, 24, 25, 26, 27, 28, 29, 30, 31, 32, 33, 34, 35, 36, 37, 38, 39, 40, 41, 42, 43, 44, 45, 46, 47, 48, 49, 50, 51, 52, 53, 54, 55, 56, 57, 58, 59, 60, 61, 62, 63, 134, 135, 136, 137, 138, 139, 140, 141, 142, 143, 144, 145, 146, 147, 148, 149, 150, 151, 152, 153, 154, 155, 156, 157, 158, 159] (by decide +kernel) (by decide +kernel)) (goodIn_sub (fun _ h => List.mem_cons_of_mem _ (List.mem_append_right _ h)) (by decide +kernel))
set_option maxRecDepth 20000 in
theorem gX10_doesItem_X10_isWord : GoodIn wsX10_doesItem (wsV RX10 120 RX10 yX10_isWord wsX10_isWord) := goodIn_app (goodIn_of _ (by decide +kernel)) ggX10_doesItem_X10_isWord
set_option maxRecDepth 20000 in
theorem ggX10_doesItem_X10_doesRow : GoodIn wsX10_doesItem wsX10_doesRow := goodIn_ca (goodIn_r _ [67, 68, 13, 69, 70, 71, 4, 72, 6, 73, 8, 7, 14, 74, 75, 76, 77, 78, 79, 80, 81, 82, 83, 84, 85, 86, 87, 88, 89, 90, 91, 92, 9, 10, 11, 12, 93, 94, 95, 96, 97, 98, 99, 100, 101, 102, 103, 104, 105, 106, 107, 108, 109, 110, 111, 112, 113, 114, 115, 116, 117, 118, 119, 120, 121, 134, 135, 136, 137, 138, 139, 140, 141, 142, 143, 144, 145, 146, 147, 148, 149, 150, 151, 152, 153, 154, 155] (by decide +kernel) (by decide +kernel)) (goodIn_sub (fun _ h => List.mem_cons_of_mem _ (List.mem_append_right _ h)) (by decide +kernel))
set_option maxRecDepth 20000 in
theorem gX10_doesItem_X10_doesRow : GoodIn wsX10_doesItem (wsV RX10 164 RX10 yX10_doesRow wsX10_doesRow) := goodIn_app (goodIn_of _ (by decide +kernel)) ggX10_doesItem_X10_doesRow
set_option maxRecDepth 20000 in
theorem ggX10_doesItem_X10_doesColumn : GoodIn wsX10_doesItem wsX10_doesColumn := goodIn_ca (goodIn_r _ [125, 68, 13, 69, 70, 71, 4, 72, 6, 73, 8, 7, 14, 74, 75, 76, 77, 78, 79, 80, 81, 82, 83, 84, 85, 86, 87, 88, 89, 90, 91, 92, 9, 10, 11, 12, 93, 94, 95, 96, 97, 98, 99, 100, 101, 102, 103, 104, 105, 106, 107, 108, 109, 110, 111, 112, 113, 114, 115, 116, 117, 118, 119, 120, 121, 134, 135, 136, 137, 138, 139, 140, 141, 142, 143, 144, 145, 146, 147, 148, 149, 150, 151, 152, 153, 154, 155] (by decide +kernel) (by decide +kernel)) (goodIn_sub (fun _ h => List.mem_cons_of_mem _ (List.mem_append_right _ h)) (by decide +kernel))
set_option maxRecDepth 20000 in
theorem gX10_doesItem_X10_doesColumn : GoodIn wsX10_doesItem (wsV RX10 169 RX10 yX10_doesColumn wsX10_doesColumn) := goodIn_app (goodIn_of _ (by decide +kernel)) ggX10_doesItem_X10_doesColumn
set_option maxRecDepth 20000 in
theorem ggX10_doesItem_X10_doesTile : GoodIn wsX10_doesItem wsX10_doesTile := goodIn_ca (goodIn_r _ [129, 13, 130, 131, 132, 4, 133, 68, 89, 90, 91, 92, 74, 9, 10, 11, 12, 14, 93, 94, 95, 96, 7, 97, 79, 80, 81, 102, 103, 104, 105, 106, 107, 108, 109, 110, 111, 112, 113, 114, 115, 116, 117, 118, 119, 120, 121, 69, 70, 71, 72, 6, 73, 8, 75, 76, 77, 78, 82, 83, 84, 85, 86, 87, 88, 134, 135, 136, 137, 138, 139, 140, 141, 142, 143, 144, 145, 146, 147, 148, 149, 150, 151, 152, 153, 154, 155] (by decide +kernel) (by decide +kernel)) (goodIn_sub (fun _ h => List.mem_cons_of_mem _ (List.mem_append_right _ h)) (by decide +kernel))
set_option maxRecDepth 20000 in
theorem gX10_doesItem_X10_doesTile : GoodIn wsX10_doesItem (wsV RX10 172 RX10 yX10_doesTile wsX10_doesTile) := goodIn_app (goodIn_of _ (by decide +kernel)) ggX10_doesItem_X10_doesTile
theorem dX10_doesItem_0 : decode cX10_doesItem 0 = .ok (.aload_n 0, 1) := by decide +kernel
theorem dX10_doesItem_1 : decode cX10_doesItem 1 = .ok (.ldc 162, 2) := by decide +kernel
theorem dX10_doesItem_3 : decode cX10_doesItem 3 = .ok (.invokevirtual 120, 3) := by decide +kernel
theorem dX10_doesItem_6 : decode cX10_doesItem 6 = .ok (.ifCond .eq 11, 3) := by decide +kernel
theorem dX10_doesItem_9 : decode cX10_doesItem 9 = .ok (.aload_n 0, 1) := by decide +kernel
theorem dX10_doesItem_10 : decode cX10_doesItem 10 = .ok (.iload_n 1, 1) := by decide +kernel
theorem dX10_doesItem_11 : decode cX10_doesItem 11 = .ok (.invokevirtual 164, 3) := by decide +kernel
theorem dX10_doesItem_14 : decode cX10_doesItem 14 = .ok (.goto 25, 3) := by decide +kernel
theorem dX10_doesItem_17 : decode cX10_doesItem 17 = .ok (.aload_n 0, 1) := by decide +kernel
theorem dX10_doesItem_18 : decode cX10_doesItem 18 = .ok (.ldc 167, 2) := by decide +kernel
theorem dX10_doesItem_20 : decode cX10_doesItem 20 = .ok (.invokevirtual 120, 3) := by decide +kernel
theorem dX10_doesItem_23 : decode cX10_doesItem 23 = .ok (.ifCond .eq 11, 3) := by decide +kernel
theorem dX10_doesItem_26 : decode cX10_doesItem 26 = .ok (.aload_n 0, 1) := by decide +kernel
theorem dX10_doesItem_27 : decode cX10_doesItem 27 = .ok (.iload_n 1, 1) := by decide +kernel
theorem dX10_doesItem_28 : decode cX10_doesItem 28 = .ok (.invokevirtual 169, 3) := by decide +kernel
theorem dX10_doesItem_31 : decode cX10_doesItem 31 = .ok (.goto 8, 3) := by decide +kernel
theorem dX10_doesItem_34 : decode cX10_doesItem 34 = .ok (.aload_n 0, 1) := by decide +kernel
theorem dX10_doesItem_35 : decode cX10_doesItem 35 = .ok (.iload_n 1, 1) := by decide +kernel
theorem dX10_doesItem_36 : decode cX10_doesItem 36 = .ok (.invokevirtual 172, 3) := by decide +kernel
theorem dX10_doesItem_39 : decode cX10_doesItem 39 = .ok (.return_, 1) := by decide +kernel
set_option maxRecDepth 20000 in
theorem ggX10_readsItems_X10_goes : GoodIn wsX10_readsItems wsX10_goes := goodIn_ca (goodIn_r _ [5, 6, 7, 8, 9, 10, 11, 12, 13, 14, 15, 4, 16, 17, 18, 19, 20, 21, 22, 23, 24, 25, 26, 138, 139, 140, 141, 142, 143, 144, 145, 146, 147, 148, 149, 150, 151, 152, 153, 154, 155, 156, 157, 158, 159] (by decide +kernel) (by decide +kernel)) (goodIn_sub (fun _ h => List.mem_cons_of_mem _ (List.mem_append_right _ h)) (by decide +kernel))
set_option maxRecDepth 20000 in
theorem gX10_readsItems_X10_goes : GoodIn wsX10_readsItems (wsV RX10 112 RX10 yX10_goes wsX10_goes) := goodIn_app (goodIn_of _ (by decide +kernel)) ggX10_readsItems_X10_goes
set_option maxRecDepth 20000 in
theorem ggX10_readsItems_X10_doesItem : GoodIn wsX10_readsItems wsX10_doesItem := goodIn_ca (goodIn_r _ [30, 31, 32, 33, 4, 34, 7, 10, 9, 35, 36, 37, 38, 6, 11, 39, 40, 41, 42, 43, 44, 45, 46, 47, 48, 49, 50, 51, 52, 53, 54, 55, 56, 57, 58, 59, 60, 61, 62, 63, 64, 65, 66, 67, 68, 69, 70, 71, 72, 73, 74, 75, 76, 77, 78, 79, 80, 81, 82, 83, 84, 85, 86, 87, 88, 89, 90, 91, 92, 1, 2, 3, 5, 8, 12, 13, 14, 15, 16, 17, 18, 19, 20, 21, 22, 23, 24, 25, 26, 93, 94, 95, 96, 97, 98, 99, 100, 101, 102, 103, 104, 105, 106, 107, 108, 109, 110, 111, 112, 113, 114, 115, 116, 117, 118, 119, 120, 121, 122, 123, 124, 125, 126, 127, 128, 129, 130, 131, 132, 133, 134, 135, 136, 137, 138, 139, 140, 141, 142, 143, 144, 145, 146, 147, 148, 149, 150, 151, 152, 153, 154, 155, 156, 157, 158, 159, 160, 161, 162, 163] (by decide +kernel) (by decide +kernel)) (goodIn_sub (fun _ h => List.mem_cons_of_mem _ (List.mem_append_right _ h)) (by decide +kernel))
set_option maxRecDepth 20000 in
theorem gX10_readsItems_X10_doesItem : GoodIn wsX10_readsItems (wsV RX10 175 RX10 yX10_doesItem wsX10_doesItem) := goodIn_app (goodIn_of _ (by decide +kernel)) ggX10_readsItems_X10_doesItem
set_option maxRecDepth 20000 in
theorem ggX10_readsItems_X10_is : GoodIn wsX10_readsItems wsX10_is := goodIn_r _ [38, 6, 11, 138, 139, 140, 141, 142, 143, 144, 145, 146, 147, 148, 149, 150, 151, 152, 153, 154, 155, 156, 157, 158, 159] (by decide +kernel) (by decide +kernel)
set_option maxRecDepth 20000 in
theorem gX10_readsItems_X10_is : GoodIn wsX10_readsItems (wsV RX10 92 RX10 yX10_is wsX10_is) := goodIn_app (goodIn_of _ (by decide +kernel)) ggX10_readsItems_X10_is
set_option maxRecDepth 20000 in
theorem ggX10_readsItems_X10_isWord : GoodIn wsX10_readsItems wsX10_isWord := goodIn_ca (goodIn_r _ [34, 7, 10, 9, 35, 36, 37, 4, 38, 6, 11, 39, 40, 41, 42, 43, 44, 45, 46, 47, 48, 49, 50, 51, 52, 53, 54, 55, 56, 57, 58, 59, 60, 61, 62, 63, 64, 65, 66, 67, 68, 69, 70, 71, 72, 73, 74, 75, 76, 77, 78, 79, 80, 81, 82, 83, 84, 85, 86, 87, 138, 139, 140, 141, 142, 143, 144, 145, 146, 147, 148, 149, 150, 151, 152, 153, 154, 155, 156, 157, 158, 159, 160, 161, 162, 163] (by decide +kernel) (by decide +kernel)) (goodIn_sub (fun _ h => List.mem_cons_of_mem _ (List.mem_append_right _ h)) (by decide +kernel))
set_option maxRecDepth 20000 in
theorem gX10_readsItems_X10_isWord : GoodIn wsX10_readsItems (wsV RX10 120 RX10 yX10_isWord wsX10_isWord) := goodIn_app (goodIn_of _ (by decide +kernel)) ggX10_readsItems_X10_isWord
theorem dX10_readsItems_0 : decode cX10_readsItems 0 = .ok (.aload_n 0, 1) := by decide +kernel
theorem dX10_readsItems_1 : decode cX10_readsItems 1 = .ok (.invokevirtual 112, 3) := by decide +kernel
theorem dX10_readsItems_4 : decode cX10_readsItems 4 = .ok (.aload_n 0, 1) := by decide +kernel
theorem dX10_readsItems_5 : decode cX10_readsItems 5 = .ok (.iload_n 1, 1) := by decide +kernel
theorem dX10_readsItems_6 : decode cX10_readsItems 6 = .ok (.invokevirtual 175, 3) := by decide +kernel
theorem dX10_readsItems_9 : decode cX10_readsItems 9 = .ok (.aload_n 0, 1) := by decide +kernel
theorem dX10_readsItems_10 : decode cX10_readsItems 10 = .ok (.iconst 3, 1) := by decide +kernel
theorem dX10_readsItems_11 : decode cX10_readsItems 11 = .ok (.invokevirtual 92, 3) := by decide +kernel
theorem dX10_readsItems_14 : decode cX10_readsItems 14 = .ok (.ifCond .ne 21, 3) := by decide +kernel
theorem dX10_readsItems_17 : decode cX10_readsItems 17 = .ok (.aload_n 0, 1) := by decide +kernel
theorem dX10_readsItems_18 : decode cX10_readsItems 18 = .ok (.ldc 162, 2) := by decide +kernel
theorem dX10_readsItems_20 : decode cX10_readsItems 20 = .ok (.invokevirtual 120, 3) := by decide +kernel
theorem dX10_readsItems_23 : decode cX10_readsItems 23 = .ok (.ifCond .ne 12, 3) := by decide +kernel
theorem dX10_readsItems_26 : decode cX10_readsItems 26 = .ok (.aload_n 0, 1) := by decide +kernel
theorem dX10_readsItems_27 : decode cX10_readsItems 27 = .ok (.ldc 167, 2) := by decide +kernel
theorem dX10_readsItems_29 : decode cX10_readsItems 29 = .ok (.invokevirtual 120, 3) := by decide +kernel
theorem dX10_readsItems_32 : decode cX10_readsItems 32 = .ok (.ifCond .eq 11, 3) := by decide +kernel
theorem dX10_readsItems_35 : decode cX10_readsItems 35 = .ok (.aload_n 0, 1) := by decide +kernel
theorem dX10_readsItems_36 : decode cX10_readsItems 36 = .ok (.iload_n 1, 1) := by decide +kernel
theorem dX10_readsItems_37 : decode cX10_readsItems 37 = .ok (.invokevirtual 175, 3) := by decide +kernel
theorem dX10_readsItems_40 : decode cX10_readsItems 40 = .ok (.goto (-31), 3) := by decide +kernel
theorem dX10_readsItems_43 : decode cX10_readsItems 43 = .ok (.return_, 1) := by decide +kernel
set_option maxRecDepth 20000 in
theorem ggX10_isNumberSetting_X10_isWord : GoodIn wsX10_isNumberSetting wsX10_isWord := goodIn_ca (goodIn_r _ [5, 6, 7, 8, 9, 10, 11, 4, 12, 13, 14, 15, 16, 17, 18, 19, 20, 21, 22, 23, 24, 25, 26, 27, 28, 29, 30, 31, 32, 33, 34, 35, 36, 37, 38, 39, 40, 41, 42, 43, 44, 45, 46, 47, 48, 49, 50, 51, 52, 53, 54, 55, 56, 57, 58, 59, 60, 61, 62, 63, 64, 65, 66, 67, 68, 69, 70, 71, 72, 73, 74, 75, 76, 77, 78, 79, 80, 81, 82, 83, 84, 85, 86, 87, 88, 89] (by decide +kernel) (by decide +kernel)) (goodIn_sub (fun _ h => List.mem_cons_of_mem _ (List.mem_append_right _ h)) (by decide +kernel))
set_option maxRecDepth 20000 in
theorem gX10_isNumberSetting_X10_isWord : GoodIn wsX10_isNumberSetting (wsV RX10 120 RX10 yX10_isWord wsX10_isWord) := goodIn_app (goodIn_of _ (by decide +kernel)) ggX10_isNumberSetting_X10_isWord
theorem dX10_isNumberSetting_0 : decode cX10_isNumberSetting 0 = .ok (.aload_n 0, 1) := by decide +kernel
theorem dX10_isNumberSetting_1 : decode cX10_isNumberSetting 1 = .ok (.ldc 178, 2) := by decide +kernel
theorem dX10_isNumberSetting_3 : decode cX10_isNumberSetting 3 = .ok (.invokevirtual 120, 3) := by decide +kernel
theorem dX10_isNumberSetting_6 : decode cX10_isNumberSetting 6 = .ok (.ifCond .ne 30, 3) := by decide +kernel
theorem dX10_isNumberSetting_9 : decode cX10_isNumberSetting 9 = .ok (.aload_n 0, 1) := by decide +kernel
theorem dX10_isNumberSetting_10 : decode cX10_isNumberSetting 10 = .ok (.ldc 180, 2) := by decide +kernel
theorem dX10_isNumberSetting_12 : decode cX10_isNumberSetting 12 = .ok (.invokevirtual 120, 3) := by decide +kernel
theorem dX10_isNumberSetting_15 : decode cX10_isNumberSetting 15 = .ok (.ifCond .ne 21, 3) := by decide +kernel
theorem dX10_isNumberSetting_18 : decode cX10_isNumberSetting 18 = .ok (.aload_n 0, 1) := by decide +kernel
theorem dX10_isNumberSetting_19 : decode cX10_isNumberSetting 19 = .ok (.ldc 182, 2) := by decide +kernel
theorem dX10_isNumberSetting_21 : decode cX10_isNumberSetting 21 = .ok (.invokevirtual 120, 3) := by decide +kernel
theorem dX10_isNumberSetting_24 : decode cX10_isNumberSetting 24 = .ok (.ifCond .ne 12, 3) := by decide +kernel
theorem dX10_isNumberSetting_27 : decode cX10_isNumberSetting 27 = .ok (.aload_n 0, 1) := by decide +kernel
theorem dX10_isNumberSetting_28 : decode cX10_isNumberSetting 28 = .ok (.ldc 184, 2) := by decide +kernel
theorem dX10_isNumberSetting_30 : decode cX10_isNumberSetting 30 = .ok (.invokevirtual 120, 3) := by decide +kernel
theorem dX10_isNumberSetting_33 : decode cX10_isNumberSetting 33 = .ok (.ifCond .eq 5, 3) := by decide +kernel
theorem dX10_isNumberSetting_36 : decode cX10_isNumberSetting 36 = .ok (.iconst 1, 1) := by decide +kernel
theorem dX10_isNumberSetting_37 : decode cX10_isNumberSetting 37 = .ok (.ireturn, 1) := by decide +kernel
theorem dX10_isNumberSetting_38 : decode cX10_isNumberSetting 38 = .ok (.aload_n 0, 1) := by decide +kernel
theorem dX10_isNumberSetting_39 : decode cX10_isNumberSetting 39 = .ok (.ldc 186, 2) := by decide +kernel
theorem dX10_isNumberSetting_41 : decode cX10_isNumberSetting 41 = .ok (.invokevirtual 120, 3) := by decide +kernel
theorem dX10_isNumberSetting_44 : decode cX10_isNumberSetting 44 = .ok (.ifCond .ne 21, 3) := by decide +kernel
theorem dX10_isNumberSetting_47 : decode cX10_isNumberSetting 47 = .ok (.aload_n 0, 1) := by decide +kernel
theorem dX10_isNumberSetting_48 : decode cX10_isNumberSetting 48 = .ok (.ldc 188, 2) := by decide +kernel
theorem dX10_isNumberSetting_50 : decode cX10_isNumberSetting 50 = .ok (.invokevirtual 120, 3) := by decide +kernel
theorem dX10_isNumberSetting_53 : decode cX10_isNumberSetting 53 = .ok (.ifCond .ne 12, 3) := by decide +kernel
theorem dX10_isNumberSetting_56 : decode cX10_isNumberSetting 56 = .ok (.aload_n 0, 1) := by decide +kernel
theorem dX10_isNumberSetting_57 : decode cX10_isNumberSetting 57 = .ok (.ldc 190, 2) := by decide +kernel
theorem dX10_isNumberSetting_59 : decode cX10_isNumberSetting 59 = .ok (.invokevirtual 120, 3) := by decide +kernel
theorem dX10_isNumberSetting_62 : decode cX10_isNumberSetting 62 = .ok (.ifCond .eq 7, 3) := by decide +kernel
theorem dX10_isNumberSetting_65 : decode cX10_isNumberSetting 65 = .ok (.iconst 1, 1) := by decide +kernel
theorem dX10_isNumberSetting_66 : decode cX10_isNumberSetting 66 = .ok (.goto 4, 3) := by decide +kernel
theorem dX10_isNumberSetting_69 : decode cX10_isNumberSetting 69 = .ok (.iconst 0, 1) := by decide +kernel
theorem dX10_isNumberSetting_70 : decode cX10_isNumberSetting 70 = .ok (.ireturn, 1) := by decide +kernel
set_option maxRecDepth 20000 in
theorem ggX10_isSetting_X10_isNumberSetting : GoodIn wsX10_isSetting wsX10_isNumberSetting := goodIn_ca (goodIn_r _ [5, 6, 7, 8, 4, 9, 10, 11, 12, 13, 14, 15, 16, 17, 18, 19, 20, 21, 22, 23, 24, 25, 26, 27, 28, 29, 30, 31, 32, 33, 34, 35, 36, 37, 38, 39, 40, 41, 42, 43, 44, 45, 46, 47, 48, 49, 50, 51, 52, 53, 54, 55, 56, 57, 58, 59, 60, 61, 62, 63, 64, 65, 66, 67, 68, 69, 70, 71, 72, 73, 74, 75, 76, 77, 78, 79, 80, 81, 82, 83, 84, 85, 86, 87, 88, 89, 90, 91, 92, 93] (by decide +kernel) (by decide +kernel)) (goodIn_sub (fun _ h => List.mem_cons_of_mem _ (List.mem_append_right _ h)) (by decide +kernel))
set_option maxRecDepth 20000 in
theorem gX10_isSetting_X10_isNumberSetting : GoodIn wsX10_isSetting (wsV RX10 192 RX10 yX10_isNumberSetting wsX10_isNumberSetting) := goodIn_app (goodIn_of _ (by decide +kernel)) ggX10_isSetting_X10_isNumberSetting
set_option maxRecDepth 20000 in
theorem ggX10_isSetting_X10_isWord : GoodIn wsX10_isSetting wsX10_isWord := goodIn_ca (goodIn_r _ [9, 10, 11, 12, 13, 14, 15, 4, 16, 17, 18, 19, 20, 21, 22, 23, 24, 25, 26, 27, 28, 29, 30, 31, 32, 33, 34, 35, 36, 37, 38, 39, 40, 41, 42, 43, 44, 45, 46, 47, 48, 49, 50, 51, 52, 53, 54, 55, 56, 57, 58, 59, 60, 61, 62, 63, 64, 65, 66, 67, 68, 69, 70, 71, 72, 73, 74, 75, 76, 77, 78, 79, 80, 81, 82, 83, 84, 85, 86, 87, 88, 89, 90, 91, 92, 93] (by decide +kernel) (by decide +kernel)) (goodIn_sub (fun _ h => List.mem_cons_of_mem _ (List.mem_append_right _ h)) (by decide +kernel))
set_option maxRecDepth 20000 in
theorem gX10_isSetting_X10_isWord : GoodIn wsX10_isSetting (wsV RX10 120 RX10 yX10_isWord wsX10_isWord) := goodIn_app (goodIn_of _ (by decide +kernel)) ggX10_isSetting_X10_isWord
theorem dX10_isSetting_0 : decode cX10_isSetting 0 = .ok (.aload_n 0, 1) := by decide +kernel
theorem dX10_isSetting_1 : decode cX10_isSetting 1 = .ok (.invokevirtual 192, 3) := by decide +kernel
theorem dX10_isSetting_4 : decode cX10_isSetting 4 = .ok (.ifCond .ne 21, 3) := by decide +kernel
theorem dX10_isSetting_7 : decode cX10_isSetting 7 = .ok (.aload_n 0, 1) := by decide +kernel
theorem dX10_isSetting_8 : decode cX10_isSetting 8 = .ok (.ldc 196, 2) := by decide +kernel
theorem dX10_isSetting_10 : decode cX10_isSetting 10 = .ok (.invokevirtual 120, 3) := by decide +kernel
theorem dX10_isSetting_13 : decode cX10_isSetting 13 = .ok (.ifCond .ne 12, 3) := by decide +kernel
theorem dX10_isSetting_16 : decode cX10_isSetting 16 = .ok (.aload_n 0, 1) := by decide +kernel
theorem dX10_isSetting_17 : decode cX10_isSetting 17 = .ok (.ldc 198, 2) := by decide +kernel
theorem dX10_isSetting_19 : decode cX10_isSetting 19 = .ok (.invokevirtual 120, 3) := by decide +kernel
theorem dX10_isSetting_22 : decode cX10_isSetting 22 = .ok (.ifCond .eq 5, 3) := by decide +kernel
theorem dX10_isSetting_25 : decode cX10_isSetting 25 = .ok (.iconst 1, 1) := by decide +kernel
theorem dX10_isSetting_26 : decode cX10_isSetting 26 = .ok (.ireturn, 1) := by decide +kernel
theorem dX10_isSetting_27 : decode cX10_isSetting 27 = .ok (.aload_n 0, 1) := by decide +kernel
theorem dX10_isSetting_28 : decode cX10_isSetting 28 = .ok (.ldc 200, 2) := by decide +kernel
theorem dX10_isSetting_30 : decode cX10_isSetting 30 = .ok (.invokevirtual 120, 3) := by decide +kernel
theorem dX10_isSetting_33 : decode cX10_isSetting 33 = .ok (.ifCond .ne 30, 3) := by decide +kernel
theorem dX10_isSetting_36 : decode cX10_isSetting 36 = .ok (.aload_n 0, 1) := by decide +kernel
theorem dX10_isSetting_37 : decode cX10_isSetting 37 = .ok (.ldc 202, 2) := by decide +kernel
theorem dX10_isSetting_39 : decode cX10_isSetting 39 = .ok (.invokevirtual 120, 3) := by decide +kernel
theorem dX10_isSetting_42 : decode cX10_isSetting 42 = .ok (.ifCond .ne 21, 3) := by decide +kernel
theorem dX10_isSetting_45 : decode cX10_isSetting 45 = .ok (.aload_n 0, 1) := by decide +kernel
theorem dX10_isSetting_46 : decode cX10_isSetting 46 = .ok (.ldc 204, 2) := by decide +kernel
theorem dX10_isSetting_48 : decode cX10_isSetting 48 = .ok (.invokevirtual 120, 3) := by decide +kernel
theorem dX10_isSetting_51 : decode cX10_isSetting 51 = .ok (.ifCond .ne 12, 3) := by decide +kernel
theorem dX10_isSetting_54 : decode cX10_isSetting 54 = .ok (.aload_n 0, 1) := by decide +kernel
theorem dX10_isSetting_55 : decode cX10_isSetting 55 = .ok (.ldc 206, 2) := by decide +kernel
theorem dX10_isSetting_57 : decode cX10_isSetting 57 = .ok (.invokevirtual 120, 3) := by decide +kernel
theorem dX10_isSetting_60 : decode cX10_isSetting 60 = .ok (.ifCond .eq 7, 3) := by decide +kernel
theorem dX10_isSetting_63 : decode cX10_isSetting 63 = .ok (.iconst 1, 1) := by decide +kernel
theorem dX10_isSetting_64 : decode cX10_isSetting 64 = .ok (.goto 4, 3) := by decide +kernel
theorem dX10_isSetting_67 : decode cX10_isSetting 67 = .ok (.iconst 0, 1) := by decide +kernel
theorem dX10_isSetting_68 : decode cX10_isSetting 68 = .ok (.ireturn, 1) := by decide +kernel
set_option maxRecDepth 20000 in
theorem ggX10_readsNumberSetting_X10_isWord : GoodIn wsX10_readsNumberSetting wsX10_isWord := goodIn_ca (goodIn_r _ [5, 6, 7, 8, 9, 10, 11, 4, 12, 13, 14, 15, 16, 17, 18, 19, 20, 21, 22, 23, 24, 25, 26, 27, 28, 29, 30, 31, 32, 33, 34, 35, 36, 37, 38, 39, 40, 41, 42, 43, 44, 45, 46, 47, 48, 49, 50, 51, 52, 53, 54, 55, 56, 57, 58, 59, 60, 61, 62, 63, 102, 103, 104, 105, 106, 107, 108, 109, 110, 111, 112, 113, 114, 115, 116, 117, 118, 119, 120, 121, 122, 123, 124, 125, 126, 127] (by decide +kernel) (by decide +kernel)) (goodIn_sub (fun _ h => List.mem_cons_of_mem _ (List.mem_append_right _ h)) (by decide +kernel))
set_option maxRecDepth 20000 in
theorem gX10_readsNumberSetting_X10_isWord : GoodIn wsX10_readsNumberSetting (wsV RX10 120 RX10 yX10_isWord wsX10_isWord) := goodIn_app (goodIn_of _ (by decide +kernel)) ggX10_readsNumberSetting_X10_isWord
set_option maxRecDepth 20000 in
theorem ggX10_readsNumberSetting_X10_readsNumber : GoodIn wsX10_readsNumberSetting wsX10_readsNumber := goodIn_ca (goodIn_r _ [67, 13, 68, 69, 70, 71, 4, 72, 6, 73, 8, 7, 14, 74, 75, 76, 77, 78, 79, 80, 81, 82, 83, 84, 85, 86, 87, 88, 89, 90, 91, 92, 93, 94, 95, 96, 9, 10, 11, 12, 97, 98, 99, 100, 101, 102, 103, 104, 105, 106, 107, 108, 109, 110, 111, 112, 113, 114, 115, 116, 117, 118, 119, 120, 121, 122, 123] (by decide +kernel) (by decide +kernel)) (goodIn_sub (fun _ h => List.mem_cons_of_mem _ (List.mem_append_right _ h)) (by decide +kernel))
set_option maxRecDepth 20000 in
theorem gX10_readsNumberSetting_X10_readsNumber : GoodIn wsX10_readsNumberSetting (wsV RX10 208 RX10 yX10_readsNumber wsX10_readsNumber) := goodIn_app (goodIn_of _ (by decide +kernel)) ggX10_readsNumberSetting_X10_readsNumber
theorem dX10_readsNumberSetting_0 : decode cX10_readsNumberSetting 0 = .ok (.aload_n 0, 1) := by decide +kernel
theorem dX10_readsNumberSetting_1 : decode cX10_readsNumberSetting 1 = .ok (.ldc 178, 2) := by decide +kernel
theorem dX10_readsNumberSetting_3 : decode cX10_readsNumberSetting 3 = .ok (.invokevirtual 120, 3) := by decide +kernel
theorem dX10_readsNumberSetting_6 : decode cX10_readsNumberSetting 6 = .ok (.ifCond .eq 14, 3) := by decide +kernel
theorem dX10_readsNumberSetting_9 : decode cX10_readsNumberSetting 9 = .ok (.aload_n 0, 1) := by decide +kernel
theorem dX10_readsNumberSetting_10 : decode cX10_readsNumberSetting 10 = .ok (.iconst 2, 1) := by decide +kernel
theorem dX10_readsNumberSetting_11 : decode cX10_readsNumberSetting 11 = .ok (.iconst 1, 1) := by decide +kernel
theorem dX10_readsNumberSetting_12 : decode cX10_readsNumberSetting 12 = .ok (.bipush 20, 2) := by decide +kernel
theorem dX10_readsNumberSetting_14 : decode cX10_readsNumberSetting 14 = .ok (.invokevirtual 208, 3) := by decide +kernel
theorem dX10_readsNumberSetting_17 : decode cX10_readsNumberSetting 17 = .ok (.goto 114, 3) := by decide +kernel
theorem dX10_readsNumberSetting_20 : decode cX10_readsNumberSetting 20 = .ok (.aload_n 0, 1) := by decide +kernel
theorem dX10_readsNumberSetting_21 : decode cX10_readsNumberSetting 21 = .ok (.ldc 180, 2) := by decide +kernel
theorem dX10_readsNumberSetting_23 : decode cX10_readsNumberSetting 23 = .ok (.invokevirtual 120, 3) := by decide +kernel
theorem dX10_readsNumberSetting_26 : decode cX10_readsNumberSetting 26 = .ok (.ifCond .eq 13, 3) := by decide +kernel
theorem dX10_readsNumberSetting_29 : decode cX10_readsNumberSetting 29 = .ok (.aload_n 0, 1) := by decide +kernel
theorem dX10_readsNumberSetting_30 : decode cX10_readsNumberSetting 30 = .ok (.iconst 3, 1) := by decide +kernel
theorem dX10_readsNumberSetting_31 : decode cX10_readsNumberSetting 31 = .ok (.iconst 1, 1) := by decide +kernel
theorem dX10_readsNumberSetting_32 : decode cX10_readsNumberSetting 32 = .ok (.iconst 5, 1) := by decide +kernel
theorem dX10_readsNumberSetting_33 : decode cX10_readsNumberSetting 33 = .ok (.invokevirtual 208, 3) := by decide +kernel
theorem dX10_readsNumberSetting_36 : decode cX10_readsNumberSetting 36 = .ok (.goto 95, 3) := by decide +kernel
theorem dX10_readsNumberSetting_39 : decode cX10_readsNumberSetting 39 = .ok (.aload_n 0, 1) := by decide +kernel
theorem dX10_readsNumberSetting_40 : decode cX10_readsNumberSetting 40 = .ok (.ldc 182, 2) := by decide +kernel
theorem dX10_readsNumberSetting_42 : decode cX10_readsNumberSetting 42 = .ok (.invokevirtual 120, 3) := by decide +kernel
theorem dX10_readsNumberSetting_45 : decode cX10_readsNumberSetting 45 = .ok (.ifCond .eq 14, 3) := by decide +kernel
theorem dX10_readsNumberSetting_48 : decode cX10_readsNumberSetting 48 = .ok (.aload_n 0, 1) := by decide +kernel
theorem dX10_readsNumberSetting_49 : decode cX10_readsNumberSetting 49 = .ok (.iconst 4, 1) := by decide +kernel
theorem dX10_readsNumberSetting_50 : decode cX10_readsNumberSetting 50 = .ok (.iconst 1, 1) := by decide +kernel
theorem dX10_readsNumberSetting_51 : decode cX10_readsNumberSetting 51 = .ok (.bipush 99, 2) := by decide +kernel
theorem dX10_readsNumberSetting_53 : decode cX10_readsNumberSetting 53 = .ok (.invokevirtual 208, 3) := by decide +kernel
theorem dX10_readsNumberSetting_56 : decode cX10_readsNumberSetting 56 = .ok (.goto 75, 3) := by decide +kernel
theorem dX10_readsNumberSetting_59 : decode cX10_readsNumberSetting 59 = .ok (.aload_n 0, 1) := by decide +kernel
theorem dX10_readsNumberSetting_60 : decode cX10_readsNumberSetting 60 = .ok (.ldc 184, 2) := by decide +kernel
theorem dX10_readsNumberSetting_62 : decode cX10_readsNumberSetting 62 = .ok (.invokevirtual 120, 3) := by decide +kernel
theorem dX10_readsNumberSetting_65 : decode cX10_readsNumberSetting 65 = .ok (.ifCond .eq 14, 3) := by decide +kernel
theorem dX10_readsNumberSetting_68 : decode cX10_readsNumberSetting 68 = .ok (.aload_n 0, 1) := by decide +kernel
theorem dX10_readsNumberSetting_69 : decode cX10_readsNumberSetting 69 = .ok (.iconst 5, 1) := by decide +kernel
theorem dX10_readsNumberSetting_70 : decode cX10_readsNumberSetting 70 = .ok (.iconst 0, 1) := by decide +kernel
theorem dX10_readsNumberSetting_71 : decode cX10_readsNumberSetting 71 = .ok (.bipush 9, 2) := by decide +kernel
theorem dX10_readsNumberSetting_73 : decode cX10_readsNumberSetting 73 = .ok (.invokevirtual 208, 3) := by decide +kernel
theorem dX10_readsNumberSetting_76 : decode cX10_readsNumberSetting 76 = .ok (.goto 55, 3) := by decide +kernel
theorem dX10_readsNumberSetting_79 : decode cX10_readsNumberSetting 79 = .ok (.aload_n 0, 1) := by decide +kernel
theorem dX10_readsNumberSetting_80 : decode cX10_readsNumberSetting 80 = .ok (.ldc 186, 2) := by decide +kernel
theorem dX10_readsNumberSetting_82 : decode cX10_readsNumberSetting 82 = .ok (.invokevirtual 120, 3) := by decide +kernel
theorem dX10_readsNumberSetting_85 : decode cX10_readsNumberSetting 85 = .ok (.ifCond .eq 15, 3) := by decide +kernel
theorem dX10_readsNumberSetting_88 : decode cX10_readsNumberSetting 88 = .ok (.aload_n 0, 1) := by decide +kernel
theorem dX10_readsNumberSetting_89 : decode cX10_readsNumberSetting 89 = .ok (.bipush 20, 2) := by decide +kernel
theorem dX10_readsNumberSetting_91 : decode cX10_readsNumberSetting 91 = .ok (.iconst 0, 1) := by decide +kernel
theorem dX10_readsNumberSetting_92 : decode cX10_readsNumberSetting 92 = .ok (.bipush 99, 2) := by decide +kernel
theorem dX10_readsNumberSetting_94 : decode cX10_readsNumberSetting 94 = .ok (.invokevirtual 208, 3) := by decide +kernel
theorem dX10_readsNumberSetting_97 : decode cX10_readsNumberSetting 97 = .ok (.goto 34, 3) := by decide +kernel
theorem dX10_readsNumberSetting_100 : decode cX10_readsNumberSetting 100 = .ok (.aload_n 0, 1) := by decide +kernel
theorem dX10_readsNumberSetting_101 : decode cX10_readsNumberSetting 101 = .ok (.ldc 188, 2) := by decide +kernel
theorem dX10_readsNumberSetting_103 : decode cX10_readsNumberSetting 103 = .ok (.invokevirtual 120, 3) := by decide +kernel
theorem dX10_readsNumberSetting_106 : decode cX10_readsNumberSetting 106 = .ok (.ifCond .eq 15, 3) := by decide +kernel
theorem dX10_readsNumberSetting_109 : decode cX10_readsNumberSetting 109 = .ok (.aload_n 0, 1) := by decide +kernel
theorem dX10_readsNumberSetting_110 : decode cX10_readsNumberSetting 110 = .ok (.bipush 21, 2) := by decide +kernel
theorem dX10_readsNumberSetting_112 : decode cX10_readsNumberSetting 112 = .ok (.iconst 0, 1) := by decide +kernel
theorem dX10_readsNumberSetting_113 : decode cX10_readsNumberSetting 113 = .ok (.bipush 20, 2) := by decide +kernel
theorem dX10_readsNumberSetting_115 : decode cX10_readsNumberSetting 115 = .ok (.invokevirtual 208, 3) := by decide +kernel
theorem dX10_readsNumberSetting_118 : decode cX10_readsNumberSetting 118 = .ok (.goto 13, 3) := by decide +kernel
theorem dX10_readsNumberSetting_121 : decode cX10_readsNumberSetting 121 = .ok (.aload_n 0, 1) := by decide +kernel
theorem dX10_readsNumberSetting_122 : decode cX10_readsNumberSetting 122 = .ok (.bipush 6, 2) := by decide +kernel
theorem dX10_readsNumberSetting_124 : decode cX10_readsNumberSetting 124 = .ok (.iconst 0, 1) := by decide +kernel
theorem dX10_readsNumberSetting_125 : decode cX10_readsNumberSetting 125 = .ok (.sipush 999, 3) := by decide +kernel
theorem dX10_readsNumberSetting_128 : decode cX10_readsNumberSetting 128 = .ok (.invokevirtual 208, 3) := by decide +kernel
theorem dX10_readsNumberSetting_131 : decode cX10_readsNumberSetting 131 = .ok (.return_, 1) := by decide +kernel
set_option maxRecDepth 20000 in
theorem ggX10_readsSetting_X10_isNumberSetting : GoodIn wsX10_readsSetting wsX10_isNumberSetting := goodIn_ca (goodIn_r _ [5, 6, 7, 8, 4, 9, 10, 11, 12, 13, 14, 15, 16, 17, 18, 19, 20, 21, 22, 23, 24, 25, 26, 27, 28, 29, 30, 31, 32, 33, 34, 35, 36, 37, 38, 39, 40, 41, 42, 43, 44, 45, 46, 47, 48, 49, 50, 51, 52, 53, 54, 55, 56, 57, 58, 59, 60, 61, 62, 63, 64, 65, 66, 67, 189, 190, 191, 192, 193, 194, 195, 196, 197, 198, 199, 200, 201, 202, 203, 204, 205, 206, 207, 208, 209, 210, 211, 212, 213, 214] (by decide +kernel) (by decide +kernel)) (goodIn_sub (fun _ h => List.mem_cons_of_mem _ (List.mem_append_right _ h)) (by decide +kernel))
set_option maxRecDepth 20000 in
theorem gX10_readsSetting_X10_isNumberSetting : GoodIn wsX10_readsSetting (wsV RX10 192 RX10 yX10_isNumberSetting wsX10_isNumberSetting) := goodIn_app (goodIn_of _ (by decide +kernel)) ggX10_readsSetting_X10_isNumberSetting
set_option maxRecDepth 20000 in
theorem ggX10_readsSetting_X10_readsNumberSetting : GoodIn wsX10_readsSetting wsX10_readsNumberSetting := goodIn_ca (goodIn_r _ [71, 6, 7, 8, 4, 9, 10, 11, 12, 13, 14, 15, 16, 17, 18, 19, 20, 21, 22, 23, 24, 25, 26, 27, 28, 29, 30, 31, 32, 33, 34, 35, 36, 37, 38, 39, 40, 41, 42, 43, 44, 45, 46, 47, 48, 49, 50, 51, 52, 53, 54, 55, 56, 57, 58, 59, 60, 61, 62, 63, 64, 65, 66, 67, 72, 73, 74, 75, 76, 77, 78, 79, 80, 81, 82, 83, 84, 85, 86, 87, 88, 89, 90, 91, 92, 93, 94, 95, 96, 97, 98, 99, 100, 101, 102, 103, 104, 105, 106, 107, 108, 109, 189, 190, 191, 192, 193, 194, 195, 196, 197, 198, 199, 200, 201, 202, 203, 204, 205, 206, 207, 208, 209, 210, 211, 212, 213, 214] (by decide +kernel) (by decide +kernel)) (goodIn_sub (fun _ h => List.mem_cons_of_mem _ (List.mem_append_right _ h)) (by decide +kernel))
set_option maxRecDepth 20000 in
theorem gX10_readsSetting_X10_readsNumberSetting : GoodIn wsX10_readsSetting (wsV RX10 212 RX10 yX10_readsNumberSetting wsX10_readsNumberSetting) := goodIn_app (goodIn_of _ (by decide +kernel)) ggX10_readsSetting_X10_readsNumberSetting
set_option maxRecDepth 20000 in
theorem ggX10_readsSetting_X10_isWord : GoodIn wsX10_readsSetting wsX10_isWord := goodIn_ca (goodIn_r _ [9, 10, 11, 12, 13, 14, 15, 4, 16, 17, 18, 19, 20, 21, 22, 23, 24, 25, 26, 27, 28, 29, 30, 31, 32, 33, 34, 35, 36, 37, 38, 39, 40, 41, 42, 43, 44, 45, 46, 47, 48, 49, 50, 51, 52, 53, 54, 55, 56, 57, 58, 59, 60, 61, 62, 63, 64, 65, 66, 67, 189, 190, 191, 192, 193, 194, 195, 196, 197, 198, 199, 200, 201, 202, 203, 204, 205, 206, 207, 208, 209, 210, 211, 212, 213, 214] (by decide +kernel) (by decide +kernel)) (goodIn_sub (fun _ h => List.mem_cons_of_mem _ (List.mem_append_right _ h)) (by decide +kernel))
set_option maxRecDepth 20000 in
theorem gX10_readsSetting_X10_isWord : GoodIn wsX10_readsSetting (wsV RX10 120 RX10 yX10_isWord wsX10_isWord) := goodIn_app (goodIn_of _ (by decide +kernel)) ggX10_readsSetting_X10_isWord
set_option maxRecDepth 20000 in
theorem ggX10_readsSetting_X10_readsWalker : GoodIn wsX10_readsSetting wsX10_readsWalker := goodIn_ca (goodIn_r _ [113, 76, 17, 77, 78, 79, 4, 80, 10, 81, 12, 11, 18, 82, 83, 84, 85, 86, 87, 88, 89, 90, 91, 92, 93, 94, 95, 96, 97, 98, 99, 100, 101, 102, 103, 104, 13, 14, 15, 16, 105, 106, 107, 108, 109, 6, 7, 8, 9, 19, 20, 21, 22, 23, 24, 25, 26, 27, 28, 29, 30, 31, 32, 33, 34, 35, 36, 37, 38, 39, 40, 41, 42, 43, 44, 45, 46, 47, 48, 49, 50, 51, 52, 53, 54, 55, 56, 57, 58, 59, 60, 61, 62, 63, 64, 65, 66, 67, 114, 115, 116, 189, 190, 191, 192, 193, 194, 195, 196, 197, 198, 199, 200, 201, 202, 203, 204, 205, 206, 207, 208, 209, 210, 211, 212, 213, 214] (by decide +kernel) (by decide +kernel)) (goodIn_sub (fun _ h => List.mem_cons_of_mem _ (List.mem_append_right _ h)) (by decide +kernel))
set_option maxRecDepth 20000 in
theorem gX10_readsSetting_X10_readsWalker : GoodIn wsX10_readsSetting (wsV RX10 215 RX10 yX10_readsWalker wsX10_readsWalker) := goodIn_app (goodIn_of _ (by decide +kernel)) ggX10_readsSetting_X10_readsWalker
set_option maxRecDepth 20000 in
theorem ggX10_readsSetting_X10_readsCat : GoodIn wsX10_readsSetting wsX10_readsCat := goodIn_ca (goodIn_r _ [120, 17, 76, 77, 78, 79, 4, 80, 10, 81, 12, 11, 18, 82, 83, 84, 85, 86, 87, 88, 89, 90, 91, 92, 93, 94, 95, 96, 121, 122, 123, 124, 97, 98, 99, 100, 101, 102, 103, 104, 13, 14, 15, 16, 105, 106, 107, 108, 109, 125, 126, 127, 128, 6, 7, 8, 9, 19, 20, 21, 22, 23, 24, 25, 26, 27, 28, 29, 30, 31, 32, 33, 34, 35, 36, 37, 38, 39, 40, 41, 42, 43, 44, 45, 46, 47, 48, 49, 50, 51, 52, 53, 54, 55, 56, 57, 58, 59, 60, 61, 62, 63, 64, 65, 66, 67, 189, 190, 191, 192, 193, 194, 195, 196, 197, 198, 199, 200, 201, 202, 203, 204, 205, 206, 207, 208, 209, 210, 211, 212, 213, 214] (by decide +kernel) (by decide +kernel)) (goodIn_sub (fun _ h => List.mem_cons_of_mem _ (List.mem_append_right _ h)) (by decide +kernel))
set_option maxRecDepth 20000 in
theorem gX10_readsSetting_X10_readsCat : GoodIn wsX10_readsSetting (wsV RX10 218 RX10 yX10_readsCat wsX10_readsCat) := goodIn_app (goodIn_of _ (by decide +kernel)) ggX10_readsSetting_X10_readsCat
set_option maxRecDepth 20000 in
theorem ggX10_readsSetting_X10_readsCurtainsOf : GoodIn wsX10_readsSetting wsX10_readsCurtainsOf := goodIn_ca (goodIn_r _ [132, 77, 78, 79, 4, 80, 17, 10, 81, 12, 11, 18, 82, 83, 84, 85, 86, 87, 88, 89, 90, 91, 92, 93, 94, 95, 96, 133, 134, 135, 136, 76, 101, 102, 103, 104, 13, 14, 15, 16, 105, 106, 107, 108, 109, 189, 190, 191, 192, 193, 194, 195, 196, 197, 198, 199, 200, 201, 202, 203, 204, 205, 206, 207, 208, 209, 210] (by decide +kernel) (by decide +kernel)) (goodIn_sub (fun _ h => List.mem_cons_of_mem _ (List.mem_append_right _ h)) (by decide +kernel))
set_option maxRecDepth 20000 in
theorem gX10_readsSetting_X10_readsCurtainsOf : GoodIn wsX10_readsSetting (wsV RX10 221 RX10 yX10_readsCurtainsOf wsX10_readsCurtainsOf) := goodIn_app (goodIn_of _ (by decide +kernel)) ggX10_readsSetting_X10_readsCurtainsOf
set_option maxRecDepth 20000 in
theorem ggX10_readsSetting_X10_readsDraught : GoodIn wsX10_readsSetting wsX10_readsDraught := goodIn_ca (goodIn_r _ [140, 76, 17, 77, 78, 79, 4, 80, 10, 81, 12, 11, 18, 82, 83, 84, 85, 86, 87, 88, 89, 90, 91, 92, 93, 94, 95, 96, 97, 98, 99, 100, 101, 102, 103, 104, 13, 14, 15, 16, 105, 106, 107, 108, 109, 189, 190, 191, 192, 193, 194, 195, 196, 197, 198, 199, 200, 201, 202, 203, 204, 205, 206, 207, 208, 209, 210] (by decide +kernel) (by decide +kernel)) (goodIn_sub (fun _ h => List.mem_cons_of_mem _ (List.mem_append_right _ h)) (by decide +kernel))
set_option maxRecDepth 20000 in
theorem gX10_readsSetting_X10_readsDraught : GoodIn wsX10_readsSetting (wsV RX10 224 RX10 yX10_readsDraught wsX10_readsDraught) := goodIn_app (goodIn_of _ (by decide +kernel)) ggX10_readsSetting_X10_readsDraught
set_option maxRecDepth 20000 in
theorem ggX10_readsSetting_X10_readsCloud : GoodIn wsX10_readsSetting wsX10_readsCloud := goodIn_ca (goodIn_r _ [144, 76, 17, 105, 106, 107, 4, 108, 11, 109, 77, 78, 79, 80, 10, 81, 12, 18, 82, 83, 84, 85, 86, 87, 88, 89, 90, 91, 92, 93, 94, 95, 96, 97, 98, 99, 100, 101, 102, 103, 104, 13, 14, 15, 16, 189, 190, 191, 192, 193, 194, 195, 196, 197, 198, 199, 200, 201, 202, 203, 204, 205, 206, 207, 208, 209, 210] (by decide +kernel) (by decide +kernel)) (goodIn_sub (fun _ h => List.mem_cons_of_mem _ (List.mem_append_right _ h)) (by decide +kernel))
set_option maxRecDepth 20000 in
theorem gX10_readsSetting_X10_readsCloud : GoodIn wsX10_readsSetting (wsV RX10 227 RX10 yX10_readsCloud wsX10_readsCloud) := goodIn_app (goodIn_of _ (by decide +kernel)) ggX10_readsSetting_X10_readsCloud
set_option maxRecDepth 20000 in
theorem ggX10_readsSetting_X10_readsItems : GoodIn wsX10_readsSetting wsX10_readsItems := goodIn_ca (goodIn_r _ [148, 77, 78, 79, 4, 80, 17, 10, 81, 12, 11, 18, 82, 83, 84, 85, 86, 87, 88, 89, 90, 91, 92, 93, 94, 95, 96, 149, 150, 151, 152, 6, 7, 8, 9, 13, 14, 15, 16, 19, 20, 21, 22, 23, 24, 25, 26, 27, 28, 29, 30, 31, 32, 33, 34, 35, 36, 37, 38, 39, 40, 41, 42, 43, 44, 45, 46, 47, 48, 49, 50, 51, 52, 53, 54, 55, 56, 57, 58, 59, 60, 61, 62, 63, 64, 65, 66, 67, 153, 154, 155, 156, 76, 101, 102, 103, 104, 105, 106, 107, 108, 109, 157, 158, 159, 160, 161, 162, 163, 164, 165, 166, 167, 168, 169, 170, 171, 172, 173, 174, 175, 176, 177, 178, 179, 180, 181, 182, 183, 184, 185, 186, 187, 188, 121, 122, 123, 124, 189, 190, 191, 192, 193, 194, 195, 196, 197, 198, 199, 200, 201, 202, 203, 204, 205, 206, 207, 208, 209, 210, 211, 212, 213, 214] (by decide +kernel) (by decide +kernel)) (goodIn_sub (fun _ h => List.mem_cons_of_mem _ (List.mem_append_right _ h)) (by decide +kernel))
set_option maxRecDepth 20000 in
theorem gX10_readsSetting_X10_readsItems : GoodIn wsX10_readsSetting (wsV RX10 230 RX10 yX10_readsItems wsX10_readsItems) := goodIn_app (goodIn_of _ (by decide +kernel)) ggX10_readsSetting_X10_readsItems
theorem dX10_readsSetting_0 : decode cX10_readsSetting 0 = .ok (.aload_n 0, 1) := by decide +kernel
theorem dX10_readsSetting_1 : decode cX10_readsSetting 1 = .ok (.invokevirtual 192, 3) := by decide +kernel
theorem dX10_readsSetting_4 : decode cX10_readsSetting 4 = .ok (.ifCond .eq 10, 3) := by decide +kernel
theorem dX10_readsSetting_7 : decode cX10_readsSetting 7 = .ok (.aload_n 0, 1) := by decide +kernel
theorem dX10_readsSetting_8 : decode cX10_readsSetting 8 = .ok (.invokevirtual 212, 3) := by decide +kernel
theorem dX10_readsSetting_11 : decode cX10_readsSetting 11 = .ok (.goto 89, 3) := by decide +kernel
theorem dX10_readsSetting_14 : decode cX10_readsSetting 14 = .ok (.aload_n 0, 1) := by decide +kernel
theorem dX10_readsSetting_15 : decode cX10_readsSetting 15 = .ok (.ldc 196, 2) := by decide +kernel
theorem dX10_readsSetting_17 : decode cX10_readsSetting 17 = .ok (.invokevirtual 120, 3) := by decide +kernel
theorem dX10_readsSetting_20 : decode cX10_readsSetting 20 = .ok (.ifCond .eq 10, 3) := by decide +kernel
theorem dX10_readsSetting_23 : decode cX10_readsSetting 23 = .ok (.aload_n 0, 1) := by decide +kernel
theorem dX10_readsSetting_24 : decode cX10_readsSetting 24 = .ok (.invokevirtual 215, 3) := by decide +kernel
theorem dX10_readsSetting_27 : decode cX10_readsSetting 27 = .ok (.goto 73, 3) := by decide +kernel
theorem dX10_readsSetting_30 : decode cX10_readsSetting 30 = .ok (.aload_n 0, 1) := by decide +kernel
theorem dX10_readsSetting_31 : decode cX10_readsSetting 31 = .ok (.ldc 198, 2) := by decide +kernel
theorem dX10_readsSetting_33 : decode cX10_readsSetting 33 = .ok (.invokevirtual 120, 3) := by decide +kernel
theorem dX10_readsSetting_36 : decode cX10_readsSetting 36 = .ok (.ifCond .eq 10, 3) := by decide +kernel
theorem dX10_readsSetting_39 : decode cX10_readsSetting 39 = .ok (.aload_n 0, 1) := by decide +kernel
theorem dX10_readsSetting_40 : decode cX10_readsSetting 40 = .ok (.invokevirtual 218, 3) := by decide +kernel
theorem dX10_readsSetting_43 : decode cX10_readsSetting 43 = .ok (.goto 57, 3) := by decide +kernel
theorem dX10_readsSetting_46 : decode cX10_readsSetting 46 = .ok (.aload_n 0, 1) := by decide +kernel
theorem dX10_readsSetting_47 : decode cX10_readsSetting 47 = .ok (.ldc 200, 2) := by decide +kernel
theorem dX10_readsSetting_49 : decode cX10_readsSetting 49 = .ok (.invokevirtual 120, 3) := by decide +kernel
theorem dX10_readsSetting_52 : decode cX10_readsSetting 52 = .ok (.ifCond .eq 11, 3) := by decide +kernel
theorem dX10_readsSetting_55 : decode cX10_readsSetting 55 = .ok (.aload_n 0, 1) := by decide +kernel
theorem dX10_readsSetting_56 : decode cX10_readsSetting 56 = .ok (.iconst 1, 1) := by decide +kernel
theorem dX10_readsSetting_57 : decode cX10_readsSetting 57 = .ok (.invokevirtual 221, 3) := by decide +kernel
theorem dX10_readsSetting_60 : decode cX10_readsSetting 60 = .ok (.goto 40, 3) := by decide +kernel
theorem dX10_readsSetting_63 : decode cX10_readsSetting 63 = .ok (.aload_n 0, 1) := by decide +kernel
theorem dX10_readsSetting_64 : decode cX10_readsSetting 64 = .ok (.ldc 202, 2) := by decide +kernel
theorem dX10_readsSetting_66 : decode cX10_readsSetting 66 = .ok (.invokevirtual 120, 3) := by decide +kernel
theorem dX10_readsSetting_69 : decode cX10_readsSetting 69 = .ok (.ifCond .eq 10, 3) := by decide +kernel
theorem dX10_readsSetting_72 : decode cX10_readsSetting 72 = .ok (.aload_n 0, 1) := by decide +kernel
theorem dX10_readsSetting_73 : decode cX10_readsSetting 73 = .ok (.invokevirtual 224, 3) := by decide +kernel
theorem dX10_readsSetting_76 : decode cX10_readsSetting 76 = .ok (.goto 24, 3) := by decide +kernel
theorem dX10_readsSetting_79 : decode cX10_readsSetting 79 = .ok (.aload_n 0, 1) := by decide +kernel
theorem dX10_readsSetting_80 : decode cX10_readsSetting 80 = .ok (.ldc 204, 2) := by decide +kernel
theorem dX10_readsSetting_82 : decode cX10_readsSetting 82 = .ok (.invokevirtual 120, 3) := by decide +kernel
theorem dX10_readsSetting_85 : decode cX10_readsSetting 85 = .ok (.ifCond .eq 10, 3) := by decide +kernel
theorem dX10_readsSetting_88 : decode cX10_readsSetting 88 = .ok (.aload_n 0, 1) := by decide +kernel
theorem dX10_readsSetting_89 : decode cX10_readsSetting 89 = .ok (.invokevirtual 227, 3) := by decide +kernel
theorem dX10_readsSetting_92 : decode cX10_readsSetting 92 = .ok (.goto 8, 3) := by decide +kernel
theorem dX10_readsSetting_95 : decode cX10_readsSetting 95 = .ok (.aload_n 0, 1) := by decide +kernel
theorem dX10_readsSetting_96 : decode cX10_readsSetting 96 = .ok (.iconst 2, 1) := by decide +kernel
theorem dX10_readsSetting_97 : decode cX10_readsSetting 97 = .ok (.invokevirtual 230, 3) := by decide +kernel
theorem dX10_readsSetting_100 : decode cX10_readsSetting 100 = .ok (.return_, 1) := by decide +kernel
set_option maxRecDepth 20000 in
theorem ggX10_emptyTile_X10_tiles : GoodIn wsX10_emptyTile wsX10_tiles := goodIn_ca (goodIn_r _ [6, 7, 49, 50, 51, 52, 53, 54, 55, 56, 57, 58, 59, 60, 61, 62, 63, 64, 65, 66, 67, 68, 69, 70] (by decide +kernel) (by decide +kernel)) (goodIn_sub (fun _ h => List.mem_cons_of_mem _ (List.mem_append_right _ h)) (by decide +kernel))
set_option maxRecDepth 20000 in
theorem gX10_emptyTile_X10_tiles : GoodIn wsX10_emptyTile (wsV RX10 136 RX10 yX10_tiles wsX10_tiles) := goodIn_app (goodIn_of _ (by decide +kernel)) ggX10_emptyTile_X10_tiles
set_option maxRecDepth 20000 in
theorem ggX10_emptyTile_X10_numberHere : GoodIn wsX10_emptyTile wsX10_numberHere := goodIn_r _ [11, 12, 1, 13, 14, 15, 5, 16, 17, 18, 19, 20, 21, 22, 23, 24, 25, 26, 49, 50, 51, 52, 53, 54, 55, 56, 57, 58, 59, 60, 61, 62, 63, 64, 65, 66, 67, 68, 69, 70] (by decide +kernel) (by decide +kernel)
set_option maxRecDepth 20000 in
theorem gX10_emptyTile_X10_numberHere : GoodIn wsX10_emptyTile (wsV RX10 108 RX10 yX10_numberHere wsX10_numberHere) := goodIn_app (goodIn_of _ (by decide +kernel)) ggX10_emptyTile_X10_numberHere
set_option maxRecDepth 20000 in
theorem ggX10_emptyTile_X10_isEmpty : GoodIn wsX10_emptyTile wsX10_isEmpty := goodIn_ca (goodIn_r _ [30, 7, 49, 50, 51, 52, 53, 54, 55, 56, 57, 58, 59, 60, 61, 62, 63, 64, 65, 66, 67, 68, 69, 70] (by decide +kernel) (by decide +kernel)) (goodIn_sub (fun _ h => List.mem_cons_of_mem _ (List.mem_append_right _ h)) (by decide +kernel))
set_option maxRecDepth 20000 in
theorem gX10_emptyTile_X10_isEmpty : GoodIn wsX10_emptyTile (wsV RX10 142 RX10 yX10_isEmpty wsX10_isEmpty) := goodIn_app (goodIn_of _ (by decide +kernel)) ggX10_emptyTile_X10_isEmpty
set_option maxRecDepth 20000 in
theorem ggX10_emptyTile_X10_faults : GoodIn wsX10_emptyTile wsX10_faults := goodIn_r _ [21, 1, 22, 23, 49, 50, 51, 52, 53, 54, 55, 56, 57, 58, 59, 60, 61, 62, 63, 64, 65, 66, 67, 68, 69, 70] (by decide +kernel) (by decide +kernel)
set_option maxRecDepth 20000 in
theorem gX10_emptyTile_X10_faults : GoodIn wsX10_emptyTile (wsV RX10 105 RX10 yX10_faults wsX10_faults) := goodIn_app (goodIn_of _ (by decide +kernel)) ggX10_emptyTile_X10_faults
set_option maxRecDepth 20000 in
theorem ggX10_emptyTile_X10_goes : GoodIn wsX10_emptyTile wsX10_goes := goodIn_ca (goodIn_r _ [34, 1, 35, 36, 37, 22, 17, 12, 38, 39, 40, 5, 41, 24, 25, 26, 42, 43, 44, 45, 46, 47, 48, 49, 50, 51, 52, 53, 54, 55, 56, 57, 58, 59, 60, 61, 62, 63, 64, 65, 66, 67, 68, 69, 70] (by decide +kernel) (by decide +kernel)) (goodIn_sub (fun _ h => List.mem_cons_of_mem _ (List.mem_append_right _ h)) (by decide +kernel))
set_option maxRecDepth 20000 in
theorem gX10_emptyTile_X10_goes : GoodIn wsX10_emptyTile (wsV RX10 112 RX10 yX10_goes wsX10_goes) := goodIn_app (goodIn_of _ (by decide +kernel)) ggX10_emptyTile_X10_goes
theorem dX10_emptyTile_0 : decode cX10_emptyTile 0 = .ok (.aload_n 0, 1) := by decide +kernel
theorem dX10_emptyTile_1 : decode cX10_emptyTile 1 = .ok (.iconst 0, 1) := by decide +kernel
theorem dX10_emptyTile_2 : decode cX10_emptyTile 2 = .ok (.aload_n 0, 1) := by decide +kernel
theorem dX10_emptyTile_3 : decode cX10_emptyTile 3 = .ok (.invokevirtual 136, 3) := by decide +kernel
theorem dX10_emptyTile_6 : decode cX10_emptyTile 6 = .ok (.iconst 1, 1) := by decide +kernel
theorem dX10_emptyTile_7 : decode cX10_emptyTile 7 = .ok (.isub, 1) := by decide +kernel
theorem dX10_emptyTile_8 : decode cX10_emptyTile 8 = .ok (.invokevirtual 108, 3) := by decide +kernel
theorem dX10_emptyTile_11 : decode cX10_emptyTile 11 = .ok (.istore_n 1, 1) := by decide +kernel
theorem dX10_emptyTile_12 : decode cX10_emptyTile 12 = .ok (.aload_n 0, 1) := by decide +kernel
theorem dX10_emptyTile_13 : decode cX10_emptyTile 13 = .ok (.getfield 59, 3) := by decide +kernel
theorem dX10_emptyTile_16 : decode cX10_emptyTile 16 = .ok (.ifCond .ne 16, 3) := by decide +kernel
theorem dX10_emptyTile_19 : decode cX10_emptyTile 19 = .ok (.aload_n 0, 1) := by decide +kernel
theorem dX10_emptyTile_20 : decode cX10_emptyTile 20 = .ok (.iload_n 1, 1) := by decide +kernel
theorem dX10_emptyTile_21 : decode cX10_emptyTile 21 = .ok (.invokevirtual 142, 3) := by decide +kernel
theorem dX10_emptyTile_24 : decode cX10_emptyTile 24 = .ok (.ifCond .ne 8, 3) := by decide +kernel
theorem dX10_emptyTile_27 : decode cX10_emptyTile 27 = .ok (.aload_n 0, 1) := by decide +kernel
theorem dX10_emptyTile_28 : decode cX10_emptyTile 28 = .ok (.iconst 3, 1) := by decide +kernel
theorem dX10_emptyTile_29 : decode cX10_emptyTile 29 = .ok (.invokevirtual 105, 3) := by decide +kernel
theorem dX10_emptyTile_32 : decode cX10_emptyTile 32 = .ok (.aload_n 0, 1) := by decide +kernel
theorem dX10_emptyTile_33 : decode cX10_emptyTile 33 = .ok (.invokevirtual 112, 3) := by decide +kernel
theorem dX10_emptyTile_36 : decode cX10_emptyTile 36 = .ok (.iload_n 1, 1) := by decide +kernel
theorem dX10_emptyTile_37 : decode cX10_emptyTile 37 = .ok (.ireturn, 1) := by decide +kernel
set_option maxRecDepth 20000 in
theorem ggX10_turnsCurtain_X10_numberHere : GoodIn wsX10_turnsCurtain wsX10_numberHere := goodIn_r _ [7, 8, 2, 9, 10, 11, 6, 12, 13, 14, 15, 16, 17, 18, 19, 20, 21, 22, 41, 42, 43, 44, 45, 46, 47, 48, 49, 50, 51, 52, 53, 54, 55, 56, 57, 58, 59, 60, 61, 62] (by decide +kernel) (by decide +kernel)
set_option maxRecDepth 20000 in
theorem gX10_turnsCurtain_X10_numberHere : GoodIn wsX10_turnsCurtain (wsV RX10 108 RX10 yX10_numberHere wsX10_numberHere) := goodIn_app (goodIn_of _ (by decide +kernel)) ggX10_turnsCurtain_X10_numberHere
set_option maxRecDepth 20000 in
theorem ggX10_turnsCurtain_X10_faults : GoodIn wsX10_turnsCurtain wsX10_faults := goodIn_r _ [17, 2, 18, 19, 41, 42, 43, 44, 45, 46, 47, 48, 49, 50, 51, 52, 53, 54, 55, 56, 57, 58, 59, 60, 61, 62] (by decide +kernel) (by decide +kernel)
set_option maxRecDepth 20000 in
theorem gX10_turnsCurtain_X10_faults : GoodIn wsX10_turnsCurtain (wsV RX10 105 RX10 yX10_faults wsX10_faults) := goodIn_app (goodIn_of _ (by decide +kernel)) ggX10_turnsCurtain_X10_faults
set_option maxRecDepth 20000 in
theorem ggX10_turnsCurtain_X10_goes : GoodIn wsX10_turnsCurtain wsX10_goes := goodIn_ca (goodIn_r _ [26, 2, 27, 28, 29, 18, 13, 8, 30, 31, 32, 6, 33, 20, 21, 22, 34, 35, 36, 37, 38, 39, 40, 41, 42, 43, 44, 45, 46, 47, 48, 49, 50, 51, 52, 53, 54, 55, 56, 57, 58, 59, 60, 61, 62] (by decide +kernel) (by decide +kernel)) (goodIn_sub (fun _ h => List.mem_cons_of_mem _ (List.mem_append_right _ h)) (by decide +kernel))
set_option maxRecDepth 20000 in
theorem gX10_turnsCurtain_X10_goes : GoodIn wsX10_turnsCurtain (wsV RX10 112 RX10 yX10_goes wsX10_goes) := goodIn_app (goodIn_of _ (by decide +kernel)) ggX10_turnsCurtain_X10_goes
theorem dX10_turnsCurtain_0 : decode cX10_turnsCurtain 0 = .ok (.aload_n 0, 1) := by decide +kernel
theorem dX10_turnsCurtain_1 : decode cX10_turnsCurtain 1 = .ok (.iconst 0, 1) := by decide +kernel
theorem dX10_turnsCurtain_2 : decode cX10_turnsCurtain 2 = .ok (.aload_n 0, 1) := by decide +kernel
theorem dX10_turnsCurtain_3 : decode cX10_turnsCurtain 3 = .ok (.getfield 9, 3) := by decide +kernel
theorem dX10_turnsCurtain_6 : decode cX10_turnsCurtain 6 = .ok (.iconst 1, 1) := by decide +kernel
theorem dX10_turnsCurtain_7 : decode cX10_turnsCurtain 7 = .ok (.iaload, 1) := by decide +kernel
theorem dX10_turnsCurtain_8 : decode cX10_turnsCurtain 8 = .ok (.iconst 1, 1) := by decide +kernel
theorem dX10_turnsCurtain_9 : decode cX10_turnsCurtain 9 = .ok (.isub, 1) := by decide +kernel
theorem dX10_turnsCurtain_10 : decode cX10_turnsCurtain 10 = .ok (.invokevirtual 108, 3) := by decide +kernel
theorem dX10_turnsCurtain_13 : decode cX10_turnsCurtain 13 = .ok (.istore_n 2, 1) := by decide +kernel
theorem dX10_turnsCurtain_14 : decode cX10_turnsCurtain 14 = .ok (.aload_n 0, 1) := by decide +kernel
theorem dX10_turnsCurtain_15 : decode cX10_turnsCurtain 15 = .ok (.getfield 59, 3) := by decide +kernel
theorem dX10_turnsCurtain_18 : decode cX10_turnsCurtain 18 = .ok (.ifCond .ne 21, 3) := by decide +kernel
theorem dX10_turnsCurtain_21 : decode cX10_turnsCurtain 21 = .ok (.aload_n 0, 1) := by decide +kernel
theorem dX10_turnsCurtain_22 : decode cX10_turnsCurtain 22 = .ok (.getfield 9, 3) := by decide +kernel
theorem dX10_turnsCurtain_25 : decode cX10_turnsCurtain 25 = .ok (.bipush 26, 2) := by decide +kernel
theorem dX10_turnsCurtain_27 : decode cX10_turnsCurtain 27 = .ok (.iload_n 2, 1) := by decide +kernel
theorem dX10_turnsCurtain_28 : decode cX10_turnsCurtain 28 = .ok (.iadd, 1) := by decide +kernel
theorem dX10_turnsCurtain_29 : decode cX10_turnsCurtain 29 = .ok (.iaload, 1) := by decide +kernel
theorem dX10_turnsCurtain_30 : decode cX10_turnsCurtain 30 = .ok (.iload_n 1, 1) := by decide +kernel
theorem dX10_turnsCurtain_31 : decode cX10_turnsCurtain 31 = .ok (.if_icmp .ne 8, 3) := by decide +kernel
theorem dX10_turnsCurtain_34 : decode cX10_turnsCurtain 34 = .ok (.aload_n 0, 1) := by decide +kernel
theorem dX10_turnsCurtain_35 : decode cX10_turnsCurtain 35 = .ok (.iconst 3, 1) := by decide +kernel
theorem dX10_turnsCurtain_36 : decode cX10_turnsCurtain 36 = .ok (.invokevirtual 105, 3) := by decide +kernel
theorem dX10_turnsCurtain_39 : decode cX10_turnsCurtain 39 = .ok (.aload_n 0, 1) := by decide +kernel
theorem dX10_turnsCurtain_40 : decode cX10_turnsCurtain 40 = .ok (.getfield 59, 3) := by decide +kernel
theorem dX10_turnsCurtain_43 : decode cX10_turnsCurtain 43 = .ok (.ifCond .ne 13, 3) := by decide +kernel
theorem dX10_turnsCurtain_46 : decode cX10_turnsCurtain 46 = .ok (.aload_n 0, 1) := by decide +kernel
theorem dX10_turnsCurtain_47 : decode cX10_turnsCurtain 47 = .ok (.getfield 9, 3) := by decide +kernel
theorem dX10_turnsCurtain_50 : decode cX10_turnsCurtain 50 = .ok (.bipush 26, 2) := by decide +kernel
theorem dX10_turnsCurtain_52 : decode cX10_turnsCurtain 52 = .ok (.iload_n 2, 1) := by decide +kernel
theorem dX10_turnsCurtain_53 : decode cX10_turnsCurtain 53 = .ok (.iadd, 1) := by decide +kernel
theorem dX10_turnsCurtain_54 : decode cX10_turnsCurtain 54 = .ok (.iload_n 1, 1) := by decide +kernel
theorem dX10_turnsCurtain_55 : decode cX10_turnsCurtain 55 = .ok (.iastore, 1) := by decide +kernel
theorem dX10_turnsCurtain_56 : decode cX10_turnsCurtain 56 = .ok (.aload_n 0, 1) := by decide +kernel
theorem dX10_turnsCurtain_57 : decode cX10_turnsCurtain 57 = .ok (.invokevirtual 112, 3) := by decide +kernel
theorem dX10_turnsCurtain_60 : decode cX10_turnsCurtain 60 = .ok (.return_, 1) := by decide +kernel
set_option maxRecDepth 20000 in
theorem ggX10_readsCurtainsOf_X10_goes : GoodIn wsX10_readsCurtainsOf wsX10_goes := goodIn_ca (goodIn_r _ [5, 6, 7, 8, 9, 10, 11, 12, 13, 14, 15, 4, 16, 17, 18, 19, 20, 21, 22, 23, 24, 25, 26, 45, 46, 47, 48, 49, 50, 51, 52, 53, 54, 55, 56, 57, 58, 59, 60, 61, 62, 63, 64, 65, 66] (by decide +kernel) (by decide +kernel)) (goodIn_sub (fun _ h => List.mem_cons_of_mem _ (List.mem_append_right _ h)) (by decide +kernel))
set_option maxRecDepth 20000 in
theorem gX10_readsCurtainsOf_X10_goes : GoodIn wsX10_readsCurtainsOf (wsV RX10 112 RX10 yX10_goes wsX10_goes) := goodIn_app (goodIn_of _ (by decide +kernel)) ggX10_readsCurtainsOf_X10_goes
set_option maxRecDepth 20000 in
theorem ggX10_readsCurtainsOf_X10_turnsCurtain : GoodIn wsX10_readsCurtainsOf wsX10_turnsCurtain := goodIn_ca (goodIn_r _ [30, 31, 6, 32, 33, 34, 4, 35, 12, 36, 37, 38, 39, 11, 40, 41, 42, 43, 10, 44, 17, 18, 19, 1, 2, 3, 5, 7, 8, 9, 13, 14, 15, 16, 20, 21, 22, 23, 24, 25, 26, 45, 46, 47, 48, 49, 50, 51, 52, 53, 54, 55, 56, 57, 58, 59, 60, 61, 62, 63, 64, 65, 66] (by decide +kernel) (by decide +kernel)) (goodIn_sub (fun _ h => List.mem_cons_of_mem _ (List.mem_append_right _ h)) (by decide +kernel))
set_option maxRecDepth 20000 in
theorem gX10_readsCurtainsOf_X10_turnsCurtain : GoodIn wsX10_readsCurtainsOf (wsV RX10 233 RX10 yX10_turnsCurtain wsX10_turnsCurtain) := goodIn_app (goodIn_of _ (by decide +kernel)) ggX10_readsCurtainsOf_X10_turnsCurtain
set_option maxRecDepth 20000 in
theorem ggX10_readsCurtainsOf_X10_is : GoodIn wsX10_readsCurtainsOf wsX10_is := goodIn_r _ [39, 6, 11, 45, 46, 47, 48, 49, 50, 51, 52, 53, 54, 55, 56, 57, 58, 59, 60, 61, 62, 63, 64, 65, 66] (by decide +kernel) (by decide +kernel)
set_option maxRecDepth 20000 in
theorem gX10_readsCurtainsOf_X10_is : GoodIn wsX10_readsCurtainsOf (wsV RX10 92 RX10 yX10_is wsX10_is) := goodIn_app (goodIn_of _ (by decide +kernel)) ggX10_readsCurtainsOf_X10_is
theorem dX10_readsCurtainsOf_0 : decode cX10_readsCurtainsOf 0 = .ok (.aload_n 0, 1) := by decide +kernel
theorem dX10_readsCurtainsOf_1 : decode cX10_readsCurtainsOf 1 = .ok (.invokevirtual 112, 3) := by decide +kernel
theorem dX10_readsCurtainsOf_4 : decode cX10_readsCurtainsOf 4 = .ok (.aload_n 0, 1) := by decide +kernel
theorem dX10_readsCurtainsOf_5 : decode cX10_readsCurtainsOf 5 = .ok (.iload_n 1, 1) := by decide +kernel
theorem dX10_readsCurtainsOf_6 : decode cX10_readsCurtainsOf 6 = .ok (.invokevirtual 233, 3) := by decide +kernel
theorem dX10_readsCurtainsOf_9 : decode cX10_readsCurtainsOf 9 = .ok (.aload_n 0, 1) := by decide +kernel
theorem dX10_readsCurtainsOf_10 : decode cX10_readsCurtainsOf 10 = .ok (.iconst 3, 1) := by decide +kernel
theorem dX10_readsCurtainsOf_11 : decode cX10_readsCurtainsOf 11 = .ok (.invokevirtual 92, 3) := by decide +kernel
theorem dX10_readsCurtainsOf_14 : decode cX10_readsCurtainsOf 14 = .ok (.ifCond .eq 11, 3) := by decide +kernel
theorem dX10_readsCurtainsOf_17 : decode cX10_readsCurtainsOf 17 = .ok (.aload_n 0, 1) := by decide +kernel
theorem dX10_readsCurtainsOf_18 : decode cX10_readsCurtainsOf 18 = .ok (.iload_n 1, 1) := by decide +kernel
theorem dX10_readsCurtainsOf_19 : decode cX10_readsCurtainsOf 19 = .ok (.invokevirtual 233, 3) := by decide +kernel
theorem dX10_readsCurtainsOf_22 : decode cX10_readsCurtainsOf 22 = .ok (.goto (-13), 3) := by decide +kernel
theorem dX10_readsCurtainsOf_25 : decode cX10_readsCurtainsOf 25 = .ok (.return_, 1) := by decide +kernel
set_option maxRecDepth 20000 in
theorem ggX10_readsCarry_X10_goes : GoodIn wsX10_readsCarry wsX10_goes := goodIn_ca (goodIn_r _ [7, 1, 8, 9, 10, 11, 12, 13, 14, 15, 16, 6, 17, 18, 19, 20, 21, 22, 23, 24, 25, 26, 27, 45, 46, 47, 48, 49, 50, 51, 52, 53, 54, 55, 56, 57, 58, 59, 60, 61, 62, 63, 64, 65, 66] (by decide +kernel) (by decide +kernel)) (goodIn_sub (fun _ h => List.mem_cons_of_mem _ (List.mem_append_right _ h)) (by decide +kernel))
set_option maxRecDepth 20000 in
theorem gX10_readsCarry_X10_goes : GoodIn wsX10_readsCarry (wsV RX10 112 RX10 yX10_goes wsX10_goes) := goodIn_app (goodIn_of _ (by decide +kernel)) ggX10_readsCarry_X10_goes
set_option maxRecDepth 20000 in
theorem ggX10_readsCarry_X10_tiles : GoodIn wsX10_readsCarry wsX10_tiles := goodIn_ca (goodIn_r _ [31, 2, 45, 46, 47, 48, 49, 50, 51, 52, 53, 54, 55, 56, 57, 58, 59, 60, 61, 62, 63, 64, 65, 66] (by decide +kernel) (by decide +kernel)) (goodIn_sub (fun _ h => List.mem_cons_of_mem _ (List.mem_append_right _ h)) (by decide +kernel))
set_option maxRecDepth 20000 in
theorem gX10_readsCarry_X10_tiles : GoodIn wsX10_readsCarry (wsV RX10 136 RX10 yX10_tiles wsX10_tiles) := goodIn_app (goodIn_of _ (by decide +kernel)) ggX10_readsCarry_X10_tiles
set_option maxRecDepth 20000 in
theorem ggX10_readsCarry_X10_numberHere : GoodIn wsX10_readsCarry wsX10_numberHere := goodIn_r _ [35, 13, 1, 36, 37, 38, 6, 39, 12, 40, 41, 42, 43, 11, 44, 18, 19, 20, 45, 46, 47, 48, 49, 50, 51, 52, 53, 54, 55, 56, 57, 58, 59, 60, 61, 62, 63, 64, 65, 66] (by decide +kernel) (by decide +kernel)
set_option maxRecDepth 20000 in
theorem gX10_readsCarry_X10_numberHere : GoodIn wsX10_readsCarry (wsV RX10 108 RX10 yX10_numberHere wsX10_numberHere) := goodIn_app (goodIn_of _ (by decide +kernel)) ggX10_readsCarry_X10_numberHere
set_option maxRecDepth 20000 in
theorem ggX10_readsCarry_X10_faults : GoodIn wsX10_readsCarry wsX10_faults := goodIn_r _ [43, 1, 11, 44, 45, 46, 47, 48, 49, 50, 51, 52, 53, 54, 55, 56, 57, 58, 59, 60, 61, 62, 63, 64, 65, 66] (by decide +kernel) (by decide +kernel)
set_option maxRecDepth 20000 in
theorem gX10_readsCarry_X10_faults : GoodIn wsX10_readsCarry (wsV RX10 105 RX10 yX10_faults wsX10_faults) := goodIn_app (goodIn_of _ (by decide +kernel)) ggX10_readsCarry_X10_faults
theorem dX10_readsCarry_0 : decode cX10_readsCarry 0 = .ok (.aload_n 0, 1) := by decide +kernel
theorem dX10_readsCarry_1 : decode cX10_readsCarry 1 = .ok (.invokevirtual 112, 3) := by decide +kernel
theorem dX10_readsCarry_4 : decode cX10_readsCarry 4 = .ok (.aload_n 0, 1) := by decide +kernel
theorem dX10_readsCarry_5 : decode cX10_readsCarry 5 = .ok (.iconst 0, 1) := by decide +kernel
theorem dX10_readsCarry_6 : decode cX10_readsCarry 6 = .ok (.aload_n 0, 1) := by decide +kernel
theorem dX10_readsCarry_7 : decode cX10_readsCarry 7 = .ok (.invokevirtual 136, 3) := by decide +kernel
theorem dX10_readsCarry_10 : decode cX10_readsCarry 10 = .ok (.iconst 1, 1) := by decide +kernel
theorem dX10_readsCarry_11 : decode cX10_readsCarry 11 = .ok (.isub, 1) := by decide +kernel
theorem dX10_readsCarry_12 : decode cX10_readsCarry 12 = .ok (.invokevirtual 108, 3) := by decide +kernel
theorem dX10_readsCarry_15 : decode cX10_readsCarry 15 = .ok (.istore_n 1, 1) := by decide +kernel
theorem dX10_readsCarry_16 : decode cX10_readsCarry 16 = .ok (.aload_n 0, 1) := by decide +kernel
theorem dX10_readsCarry_17 : decode cX10_readsCarry 17 = .ok (.getfield 59, 3) := by decide +kernel
theorem dX10_readsCarry_20 : decode cX10_readsCarry 20 = .ok (.ifCond .ne 19, 3) := by decide +kernel
theorem dX10_readsCarry_23 : decode cX10_readsCarry 23 = .ok (.aload_n 0, 1) := by decide +kernel
theorem dX10_readsCarry_24 : decode cX10_readsCarry 24 = .ok (.getfield 9, 3) := by decide +kernel
theorem dX10_readsCarry_27 : decode cX10_readsCarry 27 = .ok (.bipush 16, 2) := by decide +kernel
theorem dX10_readsCarry_29 : decode cX10_readsCarry 29 = .ok (.iaload, 1) := by decide +kernel
theorem dX10_readsCarry_30 : decode cX10_readsCarry 30 = .ok (.iconst (-1), 1) := by decide +kernel
theorem dX10_readsCarry_31 : decode cX10_readsCarry 31 = .ok (.if_icmp .ne 8, 3) := by decide +kernel
theorem dX10_readsCarry_34 : decode cX10_readsCarry 34 = .ok (.aload_n 0, 1) := by decide +kernel
theorem dX10_readsCarry_35 : decode cX10_readsCarry 35 = .ok (.iconst 3, 1) := by decide +kernel
theorem dX10_readsCarry_36 : decode cX10_readsCarry 36 = .ok (.invokevirtual 105, 3) := by decide +kernel
theorem dX10_readsCarry_39 : decode cX10_readsCarry 39 = .ok (.aload_n 0, 1) := by decide +kernel
theorem dX10_readsCarry_40 : decode cX10_readsCarry 40 = .ok (.getfield 59, 3) := by decide +kernel
theorem dX10_readsCarry_43 : decode cX10_readsCarry 43 = .ok (.ifCond .ne 11, 3) := by decide +kernel
theorem dX10_readsCarry_46 : decode cX10_readsCarry 46 = .ok (.aload_n 0, 1) := by decide +kernel
theorem dX10_readsCarry_47 : decode cX10_readsCarry 47 = .ok (.getfield 9, 3) := by decide +kernel
theorem dX10_readsCarry_50 : decode cX10_readsCarry 50 = .ok (.bipush 16, 2) := by decide +kernel
theorem dX10_readsCarry_52 : decode cX10_readsCarry 52 = .ok (.iload_n 1, 1) := by decide +kernel
theorem dX10_readsCarry_53 : decode cX10_readsCarry 53 = .ok (.iastore, 1) := by decide +kernel
theorem dX10_readsCarry_54 : decode cX10_readsCarry 54 = .ok (.aload_n 0, 1) := by decide +kernel
theorem dX10_readsCarry_55 : decode cX10_readsCarry 55 = .ok (.invokevirtual 112, 3) := by decide +kernel
theorem dX10_readsCarry_58 : decode cX10_readsCarry 58 = .ok (.return_, 1) := by decide +kernel
set_option maxRecDepth 20000 in
theorem ggX10_readsSleep_X10_faults : GoodIn wsX10_readsSleep wsX10_faults := goodIn_r _ [8, 3, 9, 10, 167, 168, 169, 170, 171, 172, 173, 174, 175, 176, 177, 178, 179, 180, 181, 182, 183, 184, 185, 186, 187, 188] (by decide +kernel) (by decide +kernel)
set_option maxRecDepth 20000 in
theorem gX10_readsSleep_X10_faults : GoodIn wsX10_readsSleep (wsV RX10 105 RX10 yX10_faults wsX10_faults) := goodIn_app (goodIn_of _ (by decide +kernel)) ggX10_readsSleep_X10_faults
set_option maxRecDepth 20000 in
theorem ggX10_readsSleep_X10_goes : GoodIn wsX10_readsSleep wsX10_goes := goodIn_ca (goodIn_r _ [14, 3, 15, 16, 17, 9, 18, 19, 20, 21, 22, 7, 23, 24, 25, 26, 27, 28, 29, 30, 31, 32, 33, 167, 168, 169, 170, 171, 172, 173, 174, 175, 176, 177, 178, 179, 180, 181, 182, 183, 184, 185, 186, 187, 188] (by decide +kernel) (by decide +kernel)) (goodIn_sub (fun _ h => List.mem_cons_of_mem _ (List.mem_append_right _ h)) (by decide +kernel))
set_option maxRecDepth 20000 in
theorem gX10_readsSleep_X10_goes : GoodIn wsX10_readsSleep (wsV RX10 112 RX10 yX10_goes wsX10_goes) := goodIn_app (goodIn_of _ (by decide +kernel)) ggX10_readsSleep_X10_goes
set_option maxRecDepth 20000 in
theorem ggX10_readsSleep_X10_passesMany : GoodIn wsX10_readsSleep wsX10_passesMany := goodIn_ca (goodIn_r _ [37, 38, 39, 40, 7, 41, 1, 42, 43, 44, 45, 46, 47, 48, 49, 50, 51, 52, 53, 54, 55, 56, 57, 58, 59, 60, 61, 62, 63, 64, 65, 66, 67, 68, 69, 70, 71, 72, 73, 74, 75, 76, 77, 78, 79, 80, 81, 82, 83, 84, 85, 86, 87, 88, 89, 90, 91, 92, 93, 94, 95, 24, 25, 26, 96, 97, 98, 99, 100, 101, 102, 103, 104, 105, 106, 107, 108, 109, 110, 111, 112, 113, 114, 115, 116, 117, 118, 119, 120, 121, 122, 123, 124, 125, 126, 127, 128, 129, 130, 131, 132, 133, 134, 135, 136, 137, 138, 139, 140, 141, 142, 143, 144, 145, 146, 147, 148, 149, 150, 151, 152, 153, 154, 155, 156, 157, 158, 159, 160, 161, 162, 163, 164, 165, 166, 167, 168, 169, 170, 171, 172, 173, 174, 175, 176, 177, 178, 179, 180, 181, 182, 183, 184, 185, 186, 187, 188] (by decide +kernel) (by decide +kernel)) (goodIn_sub (fun _ h => List.mem_cons_of_mem _ (List.mem_append_right _ h)) (by decide +kernel))
set_option maxRecDepth 20000 in
theorem gX10_readsSleep_X10_passesMany : GoodIn wsX10_readsSleep (wsV RX10 239 RX10 yX10_passesMany wsX10_passesMany) := goodIn_app (goodIn_of _ (by decide +kernel)) ggX10_readsSleep_X10_passesMany
theorem dX10_readsSleep_0 : decode cX10_readsSleep 0 = .ok (.aload_n 0, 1) := by decide +kernel
theorem dX10_readsSleep_1 : decode cX10_readsSleep 1 = .ok (.getfield 9, 3) := by decide +kernel
theorem dX10_readsSleep_4 : decode cX10_readsSleep 4 = .ok (.iconst 0, 1) := by decide +kernel
theorem dX10_readsSleep_5 : decode cX10_readsSleep 5 = .ok (.iaload, 1) := by decide +kernel
theorem dX10_readsSleep_6 : decode cX10_readsSleep 6 = .ok (.aload_n 0, 1) := by decide +kernel
theorem dX10_readsSleep_7 : decode cX10_readsSleep 7 = .ok (.getfield 9, 3) := by decide +kernel
theorem dX10_readsSleep_10 : decode cX10_readsSleep 10 = .ok (.iconst 2, 1) := by decide +kernel
theorem dX10_readsSleep_11 : decode cX10_readsSleep 11 = .ok (.iaload, 1) := by decide +kernel
theorem dX10_readsSleep_12 : decode cX10_readsSleep 12 = .ok (.imul, 1) := by decide +kernel
theorem dX10_readsSleep_13 : decode cX10_readsSleep 13 = .ok (.aload_n 0, 1) := by decide +kernel
theorem dX10_readsSleep_14 : decode cX10_readsSleep 14 = .ok (.getfield 9, 3) := by decide +kernel
theorem dX10_readsSleep_17 : decode cX10_readsSleep 17 = .ok (.bipush 7, 2) := by decide +kernel
theorem dX10_readsSleep_19 : decode cX10_readsSleep 19 = .ok (.iaload, 1) := by decide +kernel
theorem dX10_readsSleep_20 : decode cX10_readsSleep 20 = .ok (.isub, 1) := by decide +kernel
theorem dX10_readsSleep_21 : decode cX10_readsSleep 21 = .ok (.istore_n 1, 1) := by decide +kernel
theorem dX10_readsSleep_22 : decode cX10_readsSleep 22 = .ok (.aload_n 0, 1) := by decide +kernel
theorem dX10_readsSleep_23 : decode cX10_readsSleep 23 = .ok (.getfield 236, 3) := by decide +kernel
theorem dX10_readsSleep_26 : decode cX10_readsSleep 26 = .ok (.iload_n 1, 1) := by decide +kernel
theorem dX10_readsSleep_27 : decode cX10_readsSleep 27 = .ok (.iadd, 1) := by decide +kernel
theorem dX10_readsSleep_28 : decode cX10_readsSleep 28 = .ok (.sipush 2000, 3) := by decide +kernel
theorem dX10_readsSleep_31 : decode cX10_readsSleep 31 = .ok (.if_icmp .le 8, 3) := by decide +kernel
theorem dX10_readsSleep_34 : decode cX10_readsSleep 34 = .ok (.aload_n 0, 1) := by decide +kernel
theorem dX10_readsSleep_35 : decode cX10_readsSleep 35 = .ok (.iconst 4, 1) := by decide +kernel
theorem dX10_readsSleep_36 : decode cX10_readsSleep 36 = .ok (.invokevirtual 105, 3) := by decide +kernel
theorem dX10_readsSleep_39 : decode cX10_readsSleep 39 = .ok (.aload_n 0, 1) := by decide +kernel
theorem dX10_readsSleep_40 : decode cX10_readsSleep 40 = .ok (.invokevirtual 112, 3) := by decide +kernel
theorem dX10_readsSleep_43 : decode cX10_readsSleep 43 = .ok (.aload_n 0, 1) := by decide +kernel
theorem dX10_readsSleep_44 : decode cX10_readsSleep 44 = .ok (.getfield 59, 3) := by decide +kernel
theorem dX10_readsSleep_47 : decode cX10_readsSleep 47 = .ok (.ifCond .le 4, 3) := by decide +kernel
theorem dX10_readsSleep_50 : decode cX10_readsSleep 50 = .ok (.return_, 1) := by decide +kernel
theorem dX10_readsSleep_51 : decode cX10_readsSleep 51 = .ok (.aload_n 0, 1) := by decide +kernel
theorem dX10_readsSleep_52 : decode cX10_readsSleep 52 = .ok (.dup, 1) := by decide +kernel
theorem dX10_readsSleep_53 : decode cX10_readsSleep 53 = .ok (.getfield 236, 3) := by decide +kernel
theorem dX10_readsSleep_56 : decode cX10_readsSleep 56 = .ok (.iload_n 1, 1) := by decide +kernel
theorem dX10_readsSleep_57 : decode cX10_readsSleep 57 = .ok (.iadd, 1) := by decide +kernel
theorem dX10_readsSleep_58 : decode cX10_readsSleep 58 = .ok (.putfield 236, 3) := by decide +kernel
theorem dX10_readsSleep_61 : decode cX10_readsSleep 61 = .ok (.aload_n 0, 1) := by decide +kernel
theorem dX10_readsSleep_62 : decode cX10_readsSleep 62 = .ok (.iload_n 1, 1) := by decide +kernel
theorem dX10_readsSleep_63 : decode cX10_readsSleep 63 = .ok (.invokevirtual 239, 3) := by decide +kernel
theorem dX10_readsSleep_66 : decode cX10_readsSleep 66 = .ok (.return_, 1) := by decide +kernel
set_option maxRecDepth 20000 in
theorem ggX10_readsTurn_X10_goes : GoodIn wsX10_readsTurn wsX10_goes := goodIn_ca (goodIn_r _ [6, 7, 8, 9, 10, 11, 12, 13, 14, 15, 16, 5, 17, 18, 19, 20, 21, 22, 23, 24, 25, 26, 27, 28, 29, 30, 31, 32, 33, 34, 35, 36, 37, 38, 39, 40, 41, 42, 43, 44, 45, 46, 47, 48, 49] (by decide +kernel) (by decide +kernel)) (goodIn_sub (fun _ h => List.mem_cons_of_mem _ (List.mem_append_right _ h)) (by decide +kernel))
set_option maxRecDepth 20000 in
theorem gX10_readsTurn_X10_goes : GoodIn wsX10_readsTurn (wsV RX10 112 RX10 yX10_goes wsX10_goes) := goodIn_app (goodIn_of _ (by decide +kernel)) ggX10_readsTurn_X10_goes
theorem dX10_readsTurn_0 : decode cX10_readsTurn 0 = .ok (.aload_n 0, 1) := by decide +kernel
theorem dX10_readsTurn_1 : decode cX10_readsTurn 1 = .ok (.getfield 9, 3) := by decide +kernel
theorem dX10_readsTurn_4 : decode cX10_readsTurn 4 = .ok (.bipush 10, 2) := by decide +kernel
theorem dX10_readsTurn_6 : decode cX10_readsTurn 6 = .ok (.iconst 1, 1) := by decide +kernel
theorem dX10_readsTurn_7 : decode cX10_readsTurn 7 = .ok (.aload_n 0, 1) := by decide +kernel
theorem dX10_readsTurn_8 : decode cX10_readsTurn 8 = .ok (.getfield 9, 3) := by decide +kernel
theorem dX10_readsTurn_11 : decode cX10_readsTurn 11 = .ok (.bipush 10, 2) := by decide +kernel
theorem dX10_readsTurn_13 : decode cX10_readsTurn 13 = .ok (.iaload, 1) := by decide +kernel
theorem dX10_readsTurn_14 : decode cX10_readsTurn 14 = .ok (.isub, 1) := by decide +kernel
theorem dX10_readsTurn_15 : decode cX10_readsTurn 15 = .ok (.iastore, 1) := by decide +kernel
theorem dX10_readsTurn_16 : decode cX10_readsTurn 16 = .ok (.aload_n 0, 1) := by decide +kernel
theorem dX10_readsTurn_17 : decode cX10_readsTurn 17 = .ok (.invokevirtual 112, 3) := by decide +kernel
theorem dX10_readsTurn_20 : decode cX10_readsTurn 20 = .ok (.return_, 1) := by decide +kernel
set_option maxRecDepth 20000 in
theorem ggX10_readsSpill_X10_goes : GoodIn wsX10_readsSpill wsX10_goes := goodIn_ca (goodIn_r _ [7, 1, 8, 9, 10, 11, 12, 13, 14, 15, 16, 6, 17, 18, 19, 20, 21, 22, 23, 24, 25, 26, 27, 57, 58, 59, 60, 61, 62, 63, 64, 65, 66, 67, 68, 69, 70, 71, 72, 73, 74, 75, 76, 77, 78] (by decide +kernel) (by decide +kernel)) (goodIn_sub (fun _ h => List.mem_cons_of_mem _ (List.mem_append_right _ h)) (by decide +kernel))
set_option maxRecDepth 20000 in
theorem gX10_readsSpill_X10_goes : GoodIn wsX10_readsSpill (wsV RX10 112 RX10 yX10_goes wsX10_goes) := goodIn_app (goodIn_of _ (by decide +kernel)) ggX10_readsSpill_X10_goes
set_option maxRecDepth 20000 in
theorem ggX10_readsSpill_X10_emptyTile : GoodIn wsX10_readsSpill wsX10_emptyTile := goodIn_ca (goodIn_r _ [31, 1, 32, 33, 34, 6, 35, 2, 36, 37, 38, 39, 13, 40, 41, 42, 43, 12, 44, 45, 46, 47, 11, 48, 18, 19, 20, 49, 50, 51, 52, 3, 4, 5, 7, 8, 9, 10, 14, 15, 16, 17, 21, 22, 23, 24, 25, 26, 27, 57, 58, 59, 60, 61, 62, 63, 64, 65, 66, 67, 68, 69, 70, 71, 72, 73, 74, 75, 76, 77, 78] (by decide +kernel) (by decide +kernel)) (goodIn_sub (fun _ h => List.mem_cons_of_mem _ (List.mem_append_right _ h)) (by decide +kernel))
set_option maxRecDepth 20000 in
theorem gX10_readsSpill_X10_emptyTile : GoodIn wsX10_readsSpill (wsV RX10 242 RX10 yX10_emptyTile wsX10_emptyTile) := goodIn_app (goodIn_of _ (by decide +kernel)) ggX10_readsSpill_X10_emptyTile
set_option maxRecDepth 20000 in
theorem ggX10_readsSpill_X10_number : GoodIn wsX10_readsSpill wsX10_number := goodIn_ca (goodIn_r _ [56, 36, 37, 38, 6, 39, 13, 1, 40, 41, 42, 43, 12, 44, 45, 46, 47, 11, 48, 18, 19, 20, 3, 4, 5, 7, 8, 9, 10, 14, 15, 16, 17, 21, 22, 23, 24, 25, 26, 27, 57, 58, 59, 60, 61, 62, 63, 64, 65, 66, 67, 68, 69, 70, 71, 72, 73, 74, 75, 76, 77, 78] (by decide +kernel) (by decide +kernel)) (goodIn_sub (fun _ h => List.mem_cons_of_mem _ (List.mem_append_right _ h)) (by decide +kernel))
set_option maxRecDepth 20000 in
theorem gX10_readsSpill_X10_number : GoodIn wsX10_readsSpill (wsV RX10 115 RX10 yX10_number wsX10_number) := goodIn_app (goodIn_of _ (by decide +kernel)) ggX10_readsSpill_X10_number
theorem dX10_readsSpill_0 : decode cX10_readsSpill 0 = .ok (.aload_n 0, 1) := by decide +kernel
theorem dX10_readsSpill_1 : decode cX10_readsSpill 1 = .ok (.invokevirtual 112, 3) := by decide +kernel
theorem dX10_readsSpill_4 : decode cX10_readsSpill 4 = .ok (.aload_n 0, 1) := by decide +kernel
theorem dX10_readsSpill_5 : decode cX10_readsSpill 5 = .ok (.invokevirtual 242, 3) := by decide +kernel
theorem dX10_readsSpill_8 : decode cX10_readsSpill 8 = .ok (.istore_n 1, 1) := by decide +kernel
theorem dX10_readsSpill_9 : decode cX10_readsSpill 9 = .ok (.aload_n 0, 1) := by decide +kernel
theorem dX10_readsSpill_10 : decode cX10_readsSpill 10 = .ok (.iconst 1, 1) := by decide +kernel
theorem dX10_readsSpill_11 : decode cX10_readsSpill 11 = .ok (.bipush 99, 2) := by decide +kernel
theorem dX10_readsSpill_13 : decode cX10_readsSpill 13 = .ok (.invokevirtual 115, 3) := by decide +kernel
theorem dX10_readsSpill_16 : decode cX10_readsSpill 16 = .ok (.istore_n 2, 1) := by decide +kernel
theorem dX10_readsSpill_17 : decode cX10_readsSpill 17 = .ok (.aload_n 0, 1) := by decide +kernel
theorem dX10_readsSpill_18 : decode cX10_readsSpill 18 = .ok (.getfield 59, 3) := by decide +kernel
theorem dX10_readsSpill_21 : decode cX10_readsSpill 21 = .ok (.ifCond .ne 14, 3) := by decide +kernel
theorem dX10_readsSpill_24 : decode cX10_readsSpill 24 = .ok (.aload_n 0, 1) := by decide +kernel
theorem dX10_readsSpill_25 : decode cX10_readsSpill 25 = .ok (.getfield 9, 3) := by decide +kernel
theorem dX10_readsSpill_28 : decode cX10_readsSpill 28 = .ok (.sipush 244, 3) := by decide +kernel
theorem dX10_readsSpill_31 : decode cX10_readsSpill 31 = .ok (.iload_n 1, 1) := by decide +kernel
theorem dX10_readsSpill_32 : decode cX10_readsSpill 32 = .ok (.iadd, 1) := by decide +kernel
theorem dX10_readsSpill_33 : decode cX10_readsSpill 33 = .ok (.iload_n 2, 1) := by decide +kernel
theorem dX10_readsSpill_34 : decode cX10_readsSpill 34 = .ok (.iastore, 1) := by decide +kernel
theorem dX10_readsSpill_35 : decode cX10_readsSpill 35 = .ok (.return_, 1) := by decide +kernel
set_option maxRecDepth 20000 in
theorem ggX10_readsAdvance_X10_goes : GoodIn wsX10_readsAdvance wsX10_goes := goodIn_ca (goodIn_r _ [7, 1, 8, 9, 10, 11, 12, 13, 14, 15, 16, 6, 17, 18, 19, 20, 21, 22, 23, 24, 25, 26, 27, 175, 176, 177, 178, 179, 180, 181, 182, 183, 184, 185, 186, 187, 188, 189, 190, 191, 192, 193, 194, 195, 196] (by decide +kernel) (by decide +kernel)) (goodIn_sub (fun _ h => List.mem_cons_of_mem _ (List.mem_append_right _ h)) (by decide +kernel))
set_option maxRecDepth 20000 in
theorem gX10_readsAdvance_X10_goes : GoodIn wsX10_readsAdvance (wsV RX10 112 RX10 yX10_goes wsX10_goes) := goodIn_app (goodIn_of _ (by decide +kernel)) ggX10_readsAdvance_X10_goes
set_option maxRecDepth 20000 in
theorem ggX10_readsAdvance_X10_numberHere : GoodIn wsX10_readsAdvance wsX10_numberHere := goodIn_r _ [31, 13, 1, 32, 33, 34, 6, 35, 12, 36, 37, 38, 39, 11, 40, 18, 19, 20, 175, 176, 177, 178, 179, 180, 181, 182, 183, 184, 185, 186, 187, 188, 189, 190, 191, 192, 193, 194, 195, 196] (by decide +kernel) (by decide +kernel)
set_option maxRecDepth 20000 in
theorem gX10_readsAdvance_X10_numberHere : GoodIn wsX10_readsAdvance (wsV RX10 108 RX10 yX10_numberHere wsX10_numberHere) := goodIn_app (goodIn_of _ (by decide +kernel)) ggX10_readsAdvance_X10_numberHere
set_option maxRecDepth 20000 in
theorem ggX10_readsAdvance_X10_faults : GoodIn wsX10_readsAdvance wsX10_faults := goodIn_r _ [39, 1, 11, 40, 175, 176, 177, 178, 179, 180, 181, 182, 183, 184, 185, 186, 187, 188, 189, 190, 191, 192, 193, 194, 195, 196] (by decide +kernel) (by decide +kernel)
set_option maxRecDepth 20000 in
theorem gX10_readsAdvance_X10_faults : GoodIn wsX10_readsAdvance (wsV RX10 105 RX10 yX10_faults wsX10_faults) := goodIn_app (goodIn_of _ (by decide +kernel)) ggX10_readsAdvance_X10_faults
set_option maxRecDepth 20000 in
theorem ggX10_readsAdvance_X10_passesMany : GoodIn wsX10_readsAdvance wsX10_passesMany := goodIn_ca (goodIn_r _ [44, 45, 46, 47, 6, 48, 49, 50, 51, 52, 53, 54, 55, 56, 57, 58, 59, 60, 61, 62, 63, 64, 65, 66, 67, 68, 69, 70, 71, 72, 73, 74, 75, 76, 77, 78, 79, 80, 81, 82, 83, 84, 85, 86, 87, 88, 89, 90, 91, 92, 93, 94, 95, 96, 97, 98, 99, 100, 101, 102, 103, 18, 19, 20, 104, 105, 106, 107, 108, 109, 110, 111, 112, 113, 114, 115, 116, 117, 118, 119, 120, 121, 122, 123, 124, 125, 126, 127, 128, 129, 130, 131, 132, 133, 134, 135, 136, 137, 138, 139, 140, 141, 142, 143, 144, 145, 146, 147, 148, 149, 150, 151, 152, 153, 154, 155, 156, 157, 158, 159, 160, 161, 162, 163, 164, 165, 166, 167, 168, 169, 170, 171, 172, 173, 174, 175, 176, 177, 178, 179, 180, 181, 182, 183, 184, 185, 186, 187, 188, 189, 190, 191, 192, 193, 194, 195, 196] (by decide +kernel) (by decide +kernel)) (goodIn_sub (fun _ h => List.mem_cons_of_mem _ (List.mem_append_right _ h)) (by decide +kernel))
set_option maxRecDepth 20000 in
theorem gX10_readsAdvance_X10_passesMany : GoodIn wsX10_readsAdvance (wsV RX10 239 RX10 yX10_passesMany wsX10_passesMany) := goodIn_app (goodIn_of _ (by decide +kernel)) ggX10_readsAdvance_X10_passesMany
theorem dX10_readsAdvance_0 : decode cX10_readsAdvance 0 = .ok (.aload_n 0, 1) := by decide +kernel
theorem dX10_readsAdvance_1 : decode cX10_readsAdvance 1 = .ok (.invokevirtual 112, 3) := by decide +kernel
theorem dX10_readsAdvance_4 : decode cX10_readsAdvance 4 = .ok (.aload_n 0, 1) := by decide +kernel
theorem dX10_readsAdvance_5 : decode cX10_readsAdvance 5 = .ok (.iconst 1, 1) := by decide +kernel
theorem dX10_readsAdvance_6 : decode cX10_readsAdvance 6 = .ok (.sipush 300, 3) := by decide +kernel
theorem dX10_readsAdvance_9 : decode cX10_readsAdvance 9 = .ok (.invokevirtual 108, 3) := by decide +kernel
theorem dX10_readsAdvance_12 : decode cX10_readsAdvance 12 = .ok (.istore_n 1, 1) := by decide +kernel
theorem dX10_readsAdvance_13 : decode cX10_readsAdvance 13 = .ok (.aload_n 0, 1) := by decide +kernel
theorem dX10_readsAdvance_14 : decode cX10_readsAdvance 14 = .ok (.getfield 59, 3) := by decide +kernel
theorem dX10_readsAdvance_17 : decode cX10_readsAdvance 17 = .ok (.ifCond .ne 20, 3) := by decide +kernel
theorem dX10_readsAdvance_20 : decode cX10_readsAdvance 20 = .ok (.aload_n 0, 1) := by decide +kernel
theorem dX10_readsAdvance_21 : decode cX10_readsAdvance 21 = .ok (.getfield 236, 3) := by decide +kernel
theorem dX10_readsAdvance_24 : decode cX10_readsAdvance 24 = .ok (.iload_n 1, 1) := by decide +kernel
theorem dX10_readsAdvance_25 : decode cX10_readsAdvance 25 = .ok (.iadd, 1) := by decide +kernel
theorem dX10_readsAdvance_26 : decode cX10_readsAdvance 26 = .ok (.sipush 2000, 3) := by decide +kernel
theorem dX10_readsAdvance_29 : decode cX10_readsAdvance 29 = .ok (.if_icmp .le 8, 3) := by decide +kernel
theorem dX10_readsAdvance_32 : decode cX10_readsAdvance 32 = .ok (.aload_n 0, 1) := by decide +kernel
theorem dX10_readsAdvance_33 : decode cX10_readsAdvance 33 = .ok (.iconst 4, 1) := by decide +kernel
theorem dX10_readsAdvance_34 : decode cX10_readsAdvance 34 = .ok (.invokevirtual 105, 3) := by decide +kernel
theorem dX10_readsAdvance_37 : decode cX10_readsAdvance 37 = .ok (.aload_n 0, 1) := by decide +kernel
theorem dX10_readsAdvance_38 : decode cX10_readsAdvance 38 = .ok (.invokevirtual 112, 3) := by decide +kernel
theorem dX10_readsAdvance_41 : decode cX10_readsAdvance 41 = .ok (.aload_n 0, 1) := by decide +kernel
theorem dX10_readsAdvance_42 : decode cX10_readsAdvance 42 = .ok (.getfield 59, 3) := by decide +kernel
theorem dX10_readsAdvance_45 : decode cX10_readsAdvance 45 = .ok (.ifCond .le 4, 3) := by decide +kernel
theorem dX10_readsAdvance_48 : decode cX10_readsAdvance 48 = .ok (.return_, 1) := by decide +kernel
theorem dX10_readsAdvance_49 : decode cX10_readsAdvance 49 = .ok (.aload_n 0, 1) := by decide +kernel
theorem dX10_readsAdvance_50 : decode cX10_readsAdvance 50 = .ok (.dup, 1) := by decide +kernel
theorem dX10_readsAdvance_51 : decode cX10_readsAdvance 51 = .ok (.getfield 236, 3) := by decide +kernel
theorem dX10_readsAdvance_54 : decode cX10_readsAdvance 54 = .ok (.iload_n 1, 1) := by decide +kernel
theorem dX10_readsAdvance_55 : decode cX10_readsAdvance 55 = .ok (.iadd, 1) := by decide +kernel
theorem dX10_readsAdvance_56 : decode cX10_readsAdvance 56 = .ok (.putfield 236, 3) := by decide +kernel
theorem dX10_readsAdvance_59 : decode cX10_readsAdvance 59 = .ok (.aload_n 0, 1) := by decide +kernel
theorem dX10_readsAdvance_60 : decode cX10_readsAdvance 60 = .ok (.iload_n 1, 1) := by decide +kernel
theorem dX10_readsAdvance_61 : decode cX10_readsAdvance 61 = .ok (.invokevirtual 239, 3) := by decide +kernel
theorem dX10_readsAdvance_64 : decode cX10_readsAdvance 64 = .ok (.return_, 1) := by decide +kernel
set_option maxRecDepth 20000 in
theorem ggX10_readsEvents_X10_goes : GoodIn wsX10_readsEvents wsX10_goes := goodIn_ca (goodIn_r _ [5, 6, 7, 8, 9, 10, 11, 12, 13, 14, 15, 4, 16, 17, 18, 19, 20, 21, 22, 23, 24, 25, 26, 333, 334, 335, 336, 337, 338, 339, 340, 341, 342, 343, 344, 345, 346, 347, 348, 349, 350, 351, 352, 353, 354] (by decide +kernel) (by decide +kernel)) (goodIn_sub (fun _ h => List.mem_cons_of_mem _ (List.mem_append_right _ h)) (by decide +kernel))
set_option maxRecDepth 20000 in
theorem gX10_readsEvents_X10_goes : GoodIn wsX10_readsEvents (wsV RX10 112 RX10 yX10_goes wsX10_goes) := goodIn_app (goodIn_of _ (by decide +kernel)) ggX10_readsEvents_X10_goes
set_option maxRecDepth 20000 in
theorem ggX10_readsEvents_X10_readsEvent : GoodIn wsX10_readsEvents wsX10_readsEvent := goodIn_ca (goodIn_r _ [39, 40, 41, 42, 4, 43, 44, 45, 46, 47, 7, 10, 9, 30, 31, 32, 33, 6, 11, 48, 49, 50, 51, 52, 53, 54, 55, 56, 57, 58, 59, 60, 61, 62, 63, 64, 65, 66, 67, 68, 69, 70, 71, 72, 73, 74, 75, 76, 77, 78, 79, 80, 81, 82, 83, 84, 85, 86, 87, 88, 89, 90, 91, 92, 93, 94, 95, 96, 97, 98, 99, 100, 34, 35, 36, 37, 38, 101, 102, 103, 104, 105, 106, 107, 108, 109, 110, 111, 112, 113, 114, 115, 116, 117, 118, 119, 120, 121, 122, 17, 18, 19, 123, 124, 125, 126, 127, 128, 129, 130, 131, 132, 133, 134, 135, 136, 137, 138, 139, 140, 141, 142, 143, 144, 145, 146, 147, 148, 149, 150, 1, 2, 3, 5, 8, 12, 13, 14, 15, 16, 20, 21, 22, 23, 24, 25, 26, 151, 152, 153, 154, 155, 156, 157, 158, 159, 160, 161, 162, 163, 164, 165, 166, 167, 168, 169, 170, 171, 172, 173, 174, 175, 176, 177, 178, 179, 180, 181, 182, 183, 184, 185, 186, 187, 188, 189, 190, 191, 192, 193, 194, 195, 196, 197, 198, 199, 200, 201, 202, 203, 204, 205, 206, 207, 208, 209, 210, 211, 212, 213, 214, 215, 216, 217, 218, 219, 220, 221, 222, 223, 224, 225, 226, 227, 228, 229, 230, 231, 232, 233, 234, 235, 236, 237, 238, 239, 240, 241, 242, 243, 244, 245, 246, 247, 248, 249, 250, 251, 252, 253, 254, 255, 256, 257, 258, 259, 260, 261, 262, 263, 264, 265, 266, 267, 268, 269, 270, 271, 272, 273, 274, 275, 276, 277, 278, 279, 280, 281, 282, 283, 284, 285, 286, 287, 288, 289, 290, 291, 292, 293, 294, 295, 296, 297, 298, 299, 300, 301, 302, 303, 304, 305, 306, 307, 308, 309, 310, 311, 312, 313, 314, 315, 316, 317, 318, 319, 320, 321, 322, 323, 324, 325, 326, 327, 0, 27, 28, 29, 328, 329, 330, 331, 332, 333, 334, 335, 336, 337, 338, 339, 340, 341, 342, 343, 344, 345, 346, 347, 348, 349, 350, 351, 352, 353, 354, 355, 356, 357, 358] (by decide +kernel) (by decide +kernel)) (goodIn_sub (fun _ h => List.mem_cons_of_mem _ (List.mem_append_right _ h)) (by decide +kernel))
set_option maxRecDepth 20000 in
theorem gX10_readsEvents_X10_readsEvent : GoodIn wsX10_readsEvents (wsV RX10 245 RX10 yX10_readsEvent wsX10_readsEvent) := goodIn_app (goodIn_of _ (by decide +kernel)) ggX10_readsEvents_X10_readsEvent
set_option maxRecDepth 20000 in
theorem ggX10_readsEvents_X10_is : GoodIn wsX10_readsEvents wsX10_is := goodIn_r _ [33, 6, 11, 333, 334, 335, 336, 337, 338, 339, 340, 341, 342, 343, 344, 345, 346, 347, 348, 349, 350, 351, 352, 353, 354] (by decide +kernel) (by decide +kernel)
set_option maxRecDepth 20000 in
theorem gX10_readsEvents_X10_is : GoodIn wsX10_readsEvents (wsV RX10 92 RX10 yX10_is wsX10_is) := goodIn_app (goodIn_of _ (by decide +kernel)) ggX10_readsEvents_X10_is
set_option maxRecDepth 20000 in
theorem ggX10_readsEvents_X10_faults : GoodIn wsX10_readsEvents wsX10_faults := goodIn_r _ [37, 6, 10, 38, 333, 334, 335, 336, 337, 338, 339, 340, 341, 342, 343, 344, 345, 346, 347, 348, 349, 350, 351, 352, 353, 354] (by decide +kernel) (by decide +kernel)
set_option maxRecDepth 20000 in
theorem gX10_readsEvents_X10_faults : GoodIn wsX10_readsEvents (wsV RX10 105 RX10 yX10_faults wsX10_faults) := goodIn_app (goodIn_of _ (by decide +kernel)) ggX10_readsEvents_X10_faults
theorem dX10_readsEvents_0 : decode cX10_readsEvents 0 = .ok (.aload_n 0, 1) := by decide +kernel
theorem dX10_readsEvents_1 : decode cX10_readsEvents 1 = .ok (.invokevirtual 112, 3) := by decide +kernel
theorem dX10_readsEvents_4 : decode cX10_readsEvents 4 = .ok (.aload_n 0, 1) := by decide +kernel
theorem dX10_readsEvents_5 : decode cX10_readsEvents 5 = .ok (.invokevirtual 245, 3) := by decide +kernel
theorem dX10_readsEvents_8 : decode cX10_readsEvents 8 = .ok (.aload_n 0, 1) := by decide +kernel
theorem dX10_readsEvents_9 : decode cX10_readsEvents 9 = .ok (.iconst 4, 1) := by decide +kernel
theorem dX10_readsEvents_10 : decode cX10_readsEvents 10 = .ok (.invokevirtual 92, 3) := by decide +kernel
theorem dX10_readsEvents_13 : decode cX10_readsEvents 13 = .ok (.ifCond .eq 14, 3) := by decide +kernel
theorem dX10_readsEvents_16 : decode cX10_readsEvents 16 = .ok (.aload_n 0, 1) := by decide +kernel
theorem dX10_readsEvents_17 : decode cX10_readsEvents 17 = .ok (.invokevirtual 112, 3) := by decide +kernel
theorem dX10_readsEvents_20 : decode cX10_readsEvents 20 = .ok (.aload_n 0, 1) := by decide +kernel
theorem dX10_readsEvents_21 : decode cX10_readsEvents 21 = .ok (.invokevirtual 245, 3) := by decide +kernel
theorem dX10_readsEvents_24 : decode cX10_readsEvents 24 = .ok (.goto (-16), 3) := by decide +kernel
theorem dX10_readsEvents_27 : decode cX10_readsEvents 27 = .ok (.aload_n 0, 1) := by decide +kernel
theorem dX10_readsEvents_28 : decode cX10_readsEvents 28 = .ok (.bipush 6, 2) := by decide +kernel
theorem dX10_readsEvents_30 : decode cX10_readsEvents 30 = .ok (.invokevirtual 92, 3) := by decide +kernel
theorem dX10_readsEvents_33 : decode cX10_readsEvents 33 = .ok (.ifCond .ne 8, 3) := by decide +kernel
theorem dX10_readsEvents_36 : decode cX10_readsEvents 36 = .ok (.aload_n 0, 1) := by decide +kernel
theorem dX10_readsEvents_37 : decode cX10_readsEvents 37 = .ok (.iconst 1, 1) := by decide +kernel
theorem dX10_readsEvents_38 : decode cX10_readsEvents 38 = .ok (.invokevirtual 105, 3) := by decide +kernel
theorem dX10_readsEvents_41 : decode cX10_readsEvents 41 = .ok (.return_, 1) := by decide +kernel
set_option maxRecDepth 20000 in
theorem ggX10_readsRepeat_X10_faults : GoodIn wsX10_readsRepeat wsX10_faults := goodIn_r _ [8, 3, 9, 10, 333, 334, 335, 336, 337, 338, 339, 340, 341, 342, 343, 344, 345, 346, 347, 348, 349, 350, 351, 352, 353, 354] (by decide +kernel) (by decide +kernel)
set_option maxRecDepth 20000 in
theorem gX10_readsRepeat_X10_faults : GoodIn wsX10_readsRepeat (wsV RX10 105 RX10 yX10_faults wsX10_faults) := goodIn_app (goodIn_of _ (by decide +kernel)) ggX10_readsRepeat_X10_faults
set_option maxRecDepth 20000 in
theorem ggX10_readsRepeat_X10_goes : GoodIn wsX10_readsRepeat wsX10_goes := goodIn_ca (goodIn_r _ [14, 3, 2, 15, 16, 9, 17, 18, 19, 20, 21, 7, 22, 23, 24, 25, 26, 27, 28, 29, 30, 31, 32, 333, 334, 335, 336, 337, 338, 339, 340, 341, 342, 343, 344, 345, 346, 347, 348, 349, 350, 351, 352, 353, 354] (by decide +kernel) (by decide +kernel)) (goodIn_sub (fun _ h => List.mem_cons_of_mem _ (List.mem_append_right _ h)) (by decide +kernel))
set_option maxRecDepth 20000 in
theorem gX10_readsRepeat_X10_goes : GoodIn wsX10_readsRepeat (wsV RX10 112 RX10 yX10_goes wsX10_goes) := goodIn_app (goodIn_of _ (by decide +kernel)) ggX10_readsRepeat_X10_goes
set_option maxRecDepth 20000 in
theorem ggX10_readsRepeat_X10_number : GoodIn wsX10_readsRepeat wsX10_number := goodIn_ca (goodIn_r _ [36, 37, 38, 39, 7, 40, 18, 3, 41, 42, 43, 44, 17, 4, 5, 6, 8, 9, 10, 23, 24, 25, 11, 12, 13, 14, 2, 15, 16, 19, 20, 21, 22, 26, 27, 28, 29, 30, 31, 32, 333, 334, 335, 336, 337, 338, 339, 340, 341, 342, 343, 344, 345, 346, 347, 348, 349, 350, 351, 352, 353, 354] (by decide +kernel) (by decide +kernel)) (goodIn_sub (fun _ h => List.mem_cons_of_mem _ (List.mem_append_right _ h)) (by decide +kernel))
set_option maxRecDepth 20000 in
theorem gX10_readsRepeat_X10_number : GoodIn wsX10_readsRepeat (wsV RX10 115 RX10 yX10_number wsX10_number) := goodIn_app (goodIn_of _ (by decide +kernel)) ggX10_readsRepeat_X10_number
set_option maxRecDepth 20000 in
theorem ggX10_readsRepeat_X10_is : GoodIn wsX10_readsRepeat wsX10_is := goodIn_r _ [44, 3, 17, 333, 334, 335, 336, 337, 338, 339, 340, 341, 342, 343, 344, 345, 346, 347, 348, 349, 350, 351, 352, 353, 354] (by decide +kernel) (by decide +kernel)
set_option maxRecDepth 20000 in
theorem gX10_readsRepeat_X10_is : GoodIn wsX10_readsRepeat (wsV RX10 92 RX10 yX10_is wsX10_is) := goodIn_app (goodIn_of _ (by decide +kernel)) ggX10_readsRepeat_X10_is
set_option maxRecDepth 20000 in
theorem ggX10_readsRepeat_X10_readsEvents : GoodIn wsX10_readsRepeat wsX10_readsEvents := goodIn_ca (goodIn_r _ [329, 11, 12, 13, 7, 14, 3, 2, 15, 16, 9, 17, 18, 19, 20, 21, 22, 23, 24, 25, 26, 27, 28, 29, 30, 31, 32, 330, 331, 332, 41, 42, 43, 44, 4, 5, 6, 8, 10, 48, 49, 50, 51, 52, 53, 54, 55, 56, 57, 58, 59, 60, 61, 62, 63, 64, 65, 66, 67, 68, 69, 70, 71, 72, 73, 74, 75, 76, 77, 78, 79, 80, 81, 82, 83, 84, 85, 86, 87, 88, 89, 90, 91, 92, 93, 94, 95, 96, 97, 98, 99, 100, 101, 102, 103, 104, 105, 106, 107, 108, 109, 110, 111, 112, 113, 114, 115, 116, 117, 118, 119, 120, 121, 122, 123, 124, 125, 126, 127, 128, 129, 130, 131, 132, 133, 134, 135, 136, 137, 138, 139, 140, 141, 142, 143, 144, 145, 146, 147, 148, 149, 150, 151, 152, 153, 154, 155, 156, 157, 158, 159, 160, 161, 162, 163, 164, 165, 166, 167, 37, 38, 39, 40, 168, 169, 170, 171, 172, 173, 174, 175, 176, 177, 178, 179, 180, 181, 182, 183, 184, 185, 186, 187, 188, 189, 190, 191, 192, 193, 194, 195, 196, 197, 198, 199, 200, 201, 202, 203, 204, 205, 206, 207, 33, 34, 35, 36, 208, 209, 210, 211, 212, 213, 214, 215, 216, 217, 218, 219, 220, 221, 222, 223, 224, 225, 226, 227, 228, 229, 230, 231, 232, 233, 234, 235, 236, 237, 238, 239, 240, 241, 242, 243, 244, 245, 246, 247, 248, 249, 250, 251, 252, 253, 254, 255, 256, 257, 258, 259, 260, 261, 262, 263, 264, 265, 266, 267, 268, 269, 270, 271, 272, 273, 274, 275, 276, 277, 278, 279, 280, 281, 282, 283, 284, 285, 286, 287, 288, 289, 290, 291, 292, 293, 294, 295, 296, 297, 298, 299, 300, 301, 302, 303, 304, 305, 306, 307, 308, 309, 310, 311, 312, 313, 314, 315, 316, 317, 318, 319, 320, 321, 322, 323, 324, 325, 326, 327, 328, 0, 1, 45, 46, 47, 333, 334, 335, 336, 337, 338, 339, 340, 341, 342, 343, 344, 345, 346, 347, 348, 349, 350, 351, 352, 353, 354, 355, 356, 357, 358] (by decide +kernel) (by decide +kernel)) (goodIn_sub (fun _ h => List.mem_cons_of_mem _ (List.mem_append_right _ h)) (by decide +kernel))
set_option maxRecDepth 20000 in
theorem gX10_readsRepeat_X10_readsEvents : GoodIn wsX10_readsRepeat (wsV RX10 251 RX10 yX10_readsEvents wsX10_readsEvents) := goodIn_app (goodIn_of _ (by decide +kernel)) ggX10_readsRepeat_X10_readsEvents
theorem dX10_readsRepeat_0 : decode cX10_readsRepeat 0 = .ok (.aload_n 0, 1) := by decide +kernel
theorem dX10_readsRepeat_1 : decode cX10_readsRepeat 1 = .ok (.getfield 248, 3) := by decide +kernel
theorem dX10_readsRepeat_4 : decode cX10_readsRepeat 4 = .ok (.iconst 3, 1) := by decide +kernel
theorem dX10_readsRepeat_5 : decode cX10_readsRepeat 5 = .ok (.if_icmp .ne 8, 3) := by decide +kernel
theorem dX10_readsRepeat_8 : decode cX10_readsRepeat 8 = .ok (.aload_n 0, 1) := by decide +kernel
theorem dX10_readsRepeat_9 : decode cX10_readsRepeat 9 = .ok (.iconst 4, 1) := by decide +kernel
theorem dX10_readsRepeat_10 : decode cX10_readsRepeat 10 = .ok (.invokevirtual 105, 3) := by decide +kernel
theorem dX10_readsRepeat_13 : decode cX10_readsRepeat 13 = .ok (.aload_n 0, 1) := by decide +kernel
theorem dX10_readsRepeat_14 : decode cX10_readsRepeat 14 = .ok (.invokevirtual 112, 3) := by decide +kernel
theorem dX10_readsRepeat_17 : decode cX10_readsRepeat 17 = .ok (.aload_n 0, 1) := by decide +kernel
theorem dX10_readsRepeat_18 : decode cX10_readsRepeat 18 = .ok (.iconst 1, 1) := by decide +kernel
theorem dX10_readsRepeat_19 : decode cX10_readsRepeat 19 = .ok (.iconst 5, 1) := by decide +kernel
theorem dX10_readsRepeat_20 : decode cX10_readsRepeat 20 = .ok (.invokevirtual 115, 3) := by decide +kernel
theorem dX10_readsRepeat_23 : decode cX10_readsRepeat 23 = .ok (.istore_n 1, 1) := by decide +kernel
theorem dX10_readsRepeat_24 : decode cX10_readsRepeat 24 = .ok (.aload_n 0, 1) := by decide +kernel
theorem dX10_readsRepeat_25 : decode cX10_readsRepeat 25 = .ok (.iconst 5, 1) := by decide +kernel
theorem dX10_readsRepeat_26 : decode cX10_readsRepeat 26 = .ok (.invokevirtual 92, 3) := by decide +kernel
theorem dX10_readsRepeat_29 : decode cX10_readsRepeat 29 = .ok (.ifCond .ne 8, 3) := by decide +kernel
theorem dX10_readsRepeat_32 : decode cX10_readsRepeat 32 = .ok (.aload_n 0, 1) := by decide +kernel
theorem dX10_readsRepeat_33 : decode cX10_readsRepeat 33 = .ok (.iconst 1, 1) := by decide +kernel
theorem dX10_readsRepeat_34 : decode cX10_readsRepeat 34 = .ok (.invokevirtual 105, 3) := by decide +kernel
theorem dX10_readsRepeat_37 : decode cX10_readsRepeat 37 = .ok (.aload_n 0, 1) := by decide +kernel
theorem dX10_readsRepeat_38 : decode cX10_readsRepeat 38 = .ok (.getfield 69, 3) := by decide +kernel
theorem dX10_readsRepeat_41 : decode cX10_readsRepeat 41 = .ok (.istore_n 2, 1) := by decide +kernel
theorem dX10_readsRepeat_42 : decode cX10_readsRepeat 42 = .ok (.aload_n 0, 1) := by decide +kernel
theorem dX10_readsRepeat_43 : decode cX10_readsRepeat 43 = .ok (.dup, 1) := by decide +kernel
theorem dX10_readsRepeat_44 : decode cX10_readsRepeat 44 = .ok (.getfield 248, 3) := by decide +kernel
theorem dX10_readsRepeat_47 : decode cX10_readsRepeat 47 = .ok (.iconst 1, 1) := by decide +kernel
theorem dX10_readsRepeat_48 : decode cX10_readsRepeat 48 = .ok (.iadd, 1) := by decide +kernel
theorem dX10_readsRepeat_49 : decode cX10_readsRepeat 49 = .ok (.putfield 248, 3) := by decide +kernel
theorem dX10_readsRepeat_52 : decode cX10_readsRepeat 52 = .ok (.iconst 0, 1) := by decide +kernel
theorem dX10_readsRepeat_53 : decode cX10_readsRepeat 53 = .ok (.istore_n 3, 1) := by decide +kernel
theorem dX10_readsRepeat_54 : decode cX10_readsRepeat 54 = .ok (.iload_n 3, 1) := by decide +kernel
theorem dX10_readsRepeat_55 : decode cX10_readsRepeat 55 = .ok (.iload_n 1, 1) := by decide +kernel
theorem dX10_readsRepeat_56 : decode cX10_readsRepeat 56 = .ok (.if_icmp .ge 25, 3) := by decide +kernel
theorem dX10_readsRepeat_59 : decode cX10_readsRepeat 59 = .ok (.aload_n 0, 1) := by decide +kernel
theorem dX10_readsRepeat_60 : decode cX10_readsRepeat 60 = .ok (.getfield 59, 3) := by decide +kernel
theorem dX10_readsRepeat_63 : decode cX10_readsRepeat 63 = .ok (.ifCond .ne 18, 3) := by decide +kernel
theorem dX10_readsRepeat_66 : decode cX10_readsRepeat 66 = .ok (.aload_n 0, 1) := by decide +kernel
theorem dX10_readsRepeat_67 : decode cX10_readsRepeat 67 = .ok (.iload_n 2, 1) := by decide +kernel
theorem dX10_readsRepeat_68 : decode cX10_readsRepeat 68 = .ok (.putfield 69, 3) := by decide +kernel
theorem dX10_readsRepeat_71 : decode cX10_readsRepeat 71 = .ok (.aload_n 0, 1) := by decide +kernel
theorem dX10_readsRepeat_72 : decode cX10_readsRepeat 72 = .ok (.invokevirtual 251, 3) := by decide +kernel
theorem dX10_readsRepeat_75 : decode cX10_readsRepeat 75 = .ok (.iinc 3 1, 3) := by decide +kernel
theorem dX10_readsRepeat_78 : decode cX10_readsRepeat 78 = .ok (.goto (-24), 3) := by decide +kernel
theorem dX10_readsRepeat_81 : decode cX10_readsRepeat 81 = .ok (.aload_n 0, 1) := by decide +kernel
theorem dX10_readsRepeat_82 : decode cX10_readsRepeat 82 = .ok (.dup, 1) := by decide +kernel
theorem dX10_readsRepeat_83 : decode cX10_readsRepeat 83 = .ok (.getfield 248, 3) := by decide +kernel
theorem dX10_readsRepeat_86 : decode cX10_readsRepeat 86 = .ok (.iconst 1, 1) := by decide +kernel
theorem dX10_readsRepeat_87 : decode cX10_readsRepeat 87 = .ok (.isub, 1) := by decide +kernel
theorem dX10_readsRepeat_88 : decode cX10_readsRepeat 88 = .ok (.putfield 248, 3) := by decide +kernel
theorem dX10_readsRepeat_91 : decode cX10_readsRepeat 91 = .ok (.aload_n 0, 1) := by decide +kernel
theorem dX10_readsRepeat_92 : decode cX10_readsRepeat 92 = .ok (.invokevirtual 112, 3) := by decide +kernel
theorem dX10_readsRepeat_95 : decode cX10_readsRepeat 95 = .ok (.return_, 1) := by decide +kernel
set_option maxRecDepth 20000 in
theorem ggX10_begins_X10_relocates : GoodIn wsX10_begins wsX10_relocates := goodIn_ca (goodIn_r _ [7, 8, 9, 10, 11, 6, 12, 13, 14, 15, 16, 17, 18, 19, 20, 21, 22, 23, 24, 25, 26, 27, 28, 29, 30, 31, 32, 33, 34, 35, 36, 37, 38, 39, 40, 41, 42, 43, 44, 45, 46, 47, 48, 49, 50, 51, 52, 53, 54, 55, 56, 57, 58, 59, 60, 61, 62, 63, 64, 65] (by decide +kernel) (by decide +kernel)) (goodIn_sub (fun _ h => List.mem_cons_of_mem _ (List.mem_append_right _ h)) (by decide +kernel))
set_option maxRecDepth 20000 in
theorem gX10_begins_X10_relocates : GoodIn wsX10_begins (wsV RX10 257 RX10 yX10_relocates wsX10_relocates) := goodIn_app (goodIn_of _ (by decide +kernel)) ggX10_begins_X10_relocates
theorem dX10_begins_0 : decode cX10_begins 0 = .ok (.aload_n 0, 1) := by decide +kernel
theorem dX10_begins_1 : decode cX10_begins 1 = .ok (.getfield 254, 3) := by decide +kernel
theorem dX10_begins_4 : decode cX10_begins 4 = .ok (.ifCond .ne 10, 3) := by decide +kernel
theorem dX10_begins_7 : decode cX10_begins 7 = .ok (.aload_n 0, 1) := by decide +kernel
theorem dX10_begins_8 : decode cX10_begins 8 = .ok (.getfield 59, 3) := by decide +kernel
theorem dX10_begins_11 : decode cX10_begins 11 = .ok (.ifCond .le 4, 3) := by decide +kernel
theorem dX10_begins_14 : decode cX10_begins 14 = .ok (.return_, 1) := by decide +kernel
theorem dX10_begins_15 : decode cX10_begins 15 = .ok (.aload_n 0, 1) := by decide +kernel
theorem dX10_begins_16 : decode cX10_begins 16 = .ok (.iconst 1, 1) := by decide +kernel
theorem dX10_begins_17 : decode cX10_begins 17 = .ok (.putfield 254, 3) := by decide +kernel
theorem dX10_begins_20 : decode cX10_begins 20 = .ok (.aload_n 0, 1) := by decide +kernel
theorem dX10_begins_21 : decode cX10_begins 21 = .ok (.invokevirtual 257, 3) := by decide +kernel
theorem dX10_begins_24 : decode cX10_begins 24 = .ok (.return_, 1) := by decide +kernel
set_option maxRecDepth 20000 in
theorem ggX10_isTileEvent_X10_isWord : GoodIn wsX10_isTileEvent wsX10_isWord := goodIn_ca (goodIn_r _ [5, 6, 7, 8, 9, 10, 11, 4, 12, 13, 14, 15, 16, 17, 18, 19, 20, 21, 22, 23, 24, 25, 26, 27, 28, 29, 30, 31, 32, 33, 34, 35, 36, 37, 38, 39, 40, 41, 42, 43, 44, 45, 46, 47, 48, 49, 50, 51, 52, 53, 54, 55, 56, 57, 58, 59, 60, 61, 62, 63, 64, 65, 66, 67, 68, 69, 70, 71, 72, 73, 74, 75, 76, 77, 78, 79, 80, 81, 82, 83, 84, 85, 86, 87, 88, 89] (by decide +kernel) (by decide +kernel)) (goodIn_sub (fun _ h => List.mem_cons_of_mem _ (List.mem_append_right _ h)) (by decide +kernel))
set_option maxRecDepth 20000 in
theorem gX10_isTileEvent_X10_isWord : GoodIn wsX10_isTileEvent (wsV RX10 120 RX10 yX10_isWord wsX10_isWord) := goodIn_app (goodIn_of _ (by decide +kernel)) ggX10_isTileEvent_X10_isWord
theorem dX10_isTileEvent_0 : decode cX10_isTileEvent 0 = .ok (.aload_n 0, 1) := by decide +kernel
theorem dX10_isTileEvent_1 : decode cX10_isTileEvent 1 = .ok (.ldc_w 260, 3) := by decide +kernel
theorem dX10_isTileEvent_4 : decode cX10_isTileEvent 4 = .ok (.invokevirtual 120, 3) := by decide +kernel
theorem dX10_isTileEvent_7 : decode cX10_isTileEvent 7 = .ok (.ifCond .ne 23, 3) := by decide +kernel
theorem dX10_isTileEvent_10 : decode cX10_isTileEvent 10 = .ok (.aload_n 0, 1) := by decide +kernel
theorem dX10_isTileEvent_11 : decode cX10_isTileEvent 11 = .ok (.ldc_w 262, 3) := by decide +kernel
theorem dX10_isTileEvent_14 : decode cX10_isTileEvent 14 = .ok (.invokevirtual 120, 3) := by decide +kernel
theorem dX10_isTileEvent_17 : decode cX10_isTileEvent 17 = .ok (.ifCond .ne 13, 3) := by decide +kernel
theorem dX10_isTileEvent_20 : decode cX10_isTileEvent 20 = .ok (.aload_n 0, 1) := by decide +kernel
theorem dX10_isTileEvent_21 : decode cX10_isTileEvent 21 = .ok (.ldc_w 264, 3) := by decide +kernel
theorem dX10_isTileEvent_24 : decode cX10_isTileEvent 24 = .ok (.invokevirtual 120, 3) := by decide +kernel
theorem dX10_isTileEvent_27 : decode cX10_isTileEvent 27 = .ok (.ifCond .eq 7, 3) := by decide +kernel
theorem dX10_isTileEvent_30 : decode cX10_isTileEvent 30 = .ok (.iconst 1, 1) := by decide +kernel
theorem dX10_isTileEvent_31 : decode cX10_isTileEvent 31 = .ok (.goto 4, 3) := by decide +kernel
theorem dX10_isTileEvent_34 : decode cX10_isTileEvent 34 = .ok (.iconst 0, 1) := by decide +kernel
theorem dX10_isTileEvent_35 : decode cX10_isTileEvent 35 = .ok (.ireturn, 1) := by decide +kernel
set_option maxRecDepth 20000 in
theorem ggX10_isOtherEvent_X10_isWord : GoodIn wsX10_isOtherEvent wsX10_isWord := goodIn_ca (goodIn_r _ [5, 6, 7, 8, 9, 10, 11, 4, 12, 13, 14, 15, 16, 17, 18, 19, 20, 21, 22, 23, 24, 25, 26, 27, 28, 29, 30, 31, 32, 33, 34, 35, 36, 37, 38, 39, 40, 41, 42, 43, 44, 45, 46, 47, 48, 49, 50, 51, 52, 53, 54, 55, 56, 57, 58, 59, 60, 61, 62, 63, 64, 65, 66, 67, 68, 69, 70, 71, 72, 73, 74, 75, 76, 77, 78, 79, 80, 81, 82, 83, 84, 85, 86, 87, 88, 89] (by decide +kernel) (by decide +kernel)) (goodIn_sub (fun _ h => List.mem_cons_of_mem _ (List.mem_append_right _ h)) (by decide +kernel))
set_option maxRecDepth 20000 in
theorem gX10_isOtherEvent_X10_isWord : GoodIn wsX10_isOtherEvent (wsV RX10 120 RX10 yX10_isWord wsX10_isWord) := goodIn_app (goodIn_of _ (by decide +kernel)) ggX10_isOtherEvent_X10_isWord
theorem dX10_isOtherEvent_0 : decode cX10_isOtherEvent 0 = .ok (.aload_n 0, 1) := by decide +kernel
theorem dX10_isOtherEvent_1 : decode cX10_isOtherEvent 1 = .ok (.ldc_w 266, 3) := by decide +kernel
theorem dX10_isOtherEvent_4 : decode cX10_isOtherEvent 4 = .ok (.invokevirtual 120, 3) := by decide +kernel
theorem dX10_isOtherEvent_7 : decode cX10_isOtherEvent 7 = .ok (.ifCond .ne 32, 3) := by decide +kernel
theorem dX10_isOtherEvent_10 : decode cX10_isOtherEvent 10 = .ok (.aload_n 0, 1) := by decide +kernel
theorem dX10_isOtherEvent_11 : decode cX10_isOtherEvent 11 = .ok (.ldc_w 268, 3) := by decide +kernel
theorem dX10_isOtherEvent_14 : decode cX10_isOtherEvent 14 = .ok (.invokevirtual 120, 3) := by decide +kernel
theorem dX10_isOtherEvent_17 : decode cX10_isOtherEvent 17 = .ok (.ifCond .ne 22, 3) := by decide +kernel
theorem dX10_isOtherEvent_20 : decode cX10_isOtherEvent 20 = .ok (.aload_n 0, 1) := by decide +kernel
theorem dX10_isOtherEvent_21 : decode cX10_isOtherEvent 21 = .ok (.ldc_w 270, 3) := by decide +kernel
theorem dX10_isOtherEvent_24 : decode cX10_isOtherEvent 24 = .ok (.invokevirtual 120, 3) := by decide +kernel
theorem dX10_isOtherEvent_27 : decode cX10_isOtherEvent 27 = .ok (.ifCond .ne 12, 3) := by decide +kernel
theorem dX10_isOtherEvent_30 : decode cX10_isOtherEvent 30 = .ok (.aload_n 0, 1) := by decide +kernel
theorem dX10_isOtherEvent_31 : decode cX10_isOtherEvent 31 = .ok (.ldc 180, 2) := by decide +kernel
theorem dX10_isOtherEvent_33 : decode cX10_isOtherEvent 33 = .ok (.invokevirtual 120, 3) := by decide +kernel
theorem dX10_isOtherEvent_36 : decode cX10_isOtherEvent 36 = .ok (.ifCond .eq 5, 3) := by decide +kernel
theorem dX10_isOtherEvent_39 : decode cX10_isOtherEvent 39 = .ok (.iconst 1, 1) := by decide +kernel
theorem dX10_isOtherEvent_40 : decode cX10_isOtherEvent 40 = .ok (.ireturn, 1) := by decide +kernel
theorem dX10_isOtherEvent_41 : decode cX10_isOtherEvent 41 = .ok (.aload_n 0, 1) := by decide +kernel
theorem dX10_isOtherEvent_42 : decode cX10_isOtherEvent 42 = .ok (.ldc_w 272, 3) := by decide +kernel
theorem dX10_isOtherEvent_45 : decode cX10_isOtherEvent 45 = .ok (.invokevirtual 120, 3) := by decide +kernel
theorem dX10_isOtherEvent_48 : decode cX10_isOtherEvent 48 = .ok (.ifCond .ne 33, 3) := by decide +kernel
theorem dX10_isOtherEvent_51 : decode cX10_isOtherEvent 51 = .ok (.aload_n 0, 1) := by decide +kernel
theorem dX10_isOtherEvent_52 : decode cX10_isOtherEvent 52 = .ok (.ldc_w 274, 3) := by decide +kernel
theorem dX10_isOtherEvent_55 : decode cX10_isOtherEvent 55 = .ok (.invokevirtual 120, 3) := by decide +kernel
theorem dX10_isOtherEvent_58 : decode cX10_isOtherEvent 58 = .ok (.ifCond .ne 23, 3) := by decide +kernel
theorem dX10_isOtherEvent_61 : decode cX10_isOtherEvent 61 = .ok (.aload_n 0, 1) := by decide +kernel
theorem dX10_isOtherEvent_62 : decode cX10_isOtherEvent 62 = .ok (.ldc_w 276, 3) := by decide +kernel
theorem dX10_isOtherEvent_65 : decode cX10_isOtherEvent 65 = .ok (.invokevirtual 120, 3) := by decide +kernel
theorem dX10_isOtherEvent_68 : decode cX10_isOtherEvent 68 = .ok (.ifCond .ne 13, 3) := by decide +kernel
theorem dX10_isOtherEvent_71 : decode cX10_isOtherEvent 71 = .ok (.aload_n 0, 1) := by decide +kernel
theorem dX10_isOtherEvent_72 : decode cX10_isOtherEvent 72 = .ok (.ldc_w 278, 3) := by decide +kernel
theorem dX10_isOtherEvent_75 : decode cX10_isOtherEvent 75 = .ok (.invokevirtual 120, 3) := by decide +kernel
theorem dX10_isOtherEvent_78 : decode cX10_isOtherEvent 78 = .ok (.ifCond .eq 7, 3) := by decide +kernel
theorem dX10_isOtherEvent_81 : decode cX10_isOtherEvent 81 = .ok (.iconst 1, 1) := by decide +kernel
theorem dX10_isOtherEvent_82 : decode cX10_isOtherEvent 82 = .ok (.goto 4, 3) := by decide +kernel
theorem dX10_isOtherEvent_85 : decode cX10_isOtherEvent 85 = .ok (.iconst 0, 1) := by decide +kernel
theorem dX10_isOtherEvent_86 : decode cX10_isOtherEvent 86 = .ok (.ireturn, 1) := by decide +kernel
set_option maxRecDepth 20000 in
theorem ggX10_readsTileEvent_X10_isWord : GoodIn wsX10_readsTileEvent wsX10_isWord := goodIn_ca (goodIn_r _ [5, 6, 7, 8, 9, 10, 11, 4, 12, 13, 14, 15, 16, 17, 18, 19, 20, 21, 22, 23, 24, 25, 26, 27, 28, 29, 30, 31, 32, 33, 34, 35, 36, 37, 38, 39, 40, 41, 42, 43, 44, 45, 46, 47, 48, 49, 50, 51, 52, 53, 54, 55, 56, 57, 58, 59, 60, 61, 62, 63, 154, 155, 156, 157, 158, 159, 160, 161, 162, 163, 164, 165, 166, 167, 168, 169, 170, 171, 172, 173, 174, 175, 176, 177, 178, 179] (by decide +kernel) (by decide +kernel)) (goodIn_sub (fun _ h => List.mem_cons_of_mem _ (List.mem_append_right _ h)) (by decide +kernel))
set_option maxRecDepth 20000 in
theorem gX10_readsTileEvent_X10_isWord : GoodIn wsX10_readsTileEvent (wsV RX10 120 RX10 yX10_isWord wsX10_isWord) := goodIn_app (goodIn_of _ (by decide +kernel)) ggX10_readsTileEvent_X10_isWord
set_option maxRecDepth 20000 in
theorem ggX10_readsTileEvent_X10_readsItems : GoodIn wsX10_readsTileEvent wsX10_readsItems := goodIn_ca (goodIn_r _ [67, 68, 69, 70, 4, 71, 13, 6, 72, 8, 7, 14, 73, 74, 75, 76, 77, 78, 79, 80, 81, 82, 83, 84, 85, 86, 87, 88, 89, 90, 91, 1, 2, 3, 5, 9, 10, 11, 12, 15, 16, 17, 18, 19, 20, 21, 22, 23, 24, 25, 26, 27, 28, 29, 30, 31, 32, 33, 34, 35, 36, 37, 38, 39, 40, 41, 42, 43, 44, 45, 46, 47, 48, 49, 50, 51, 52, 53, 54, 55, 56, 57, 58, 59, 60, 61, 62, 63, 92, 93, 94, 95, 96, 97, 98, 99, 100, 101, 102, 103, 104, 105, 106, 107, 108, 109, 110, 111, 112, 113, 114, 115, 116, 117, 118, 119, 120, 121, 122, 123, 124, 125, 126, 127, 128, 129, 130, 131, 132, 133, 134, 135, 136, 137, 138, 139, 140, 141, 154, 155, 156, 157, 158, 159, 160, 161, 162, 163, 164, 165, 166, 167, 168, 169, 170, 171, 172, 173, 174, 175, 176, 177, 178, 179] (by decide +kernel) (by decide +kernel)) (goodIn_sub (fun _ h => List.mem_cons_of_mem _ (List.mem_append_right _ h)) (by decide +kernel))
set_option maxRecDepth 20000 in
theorem gX10_readsTileEvent_X10_readsItems : GoodIn wsX10_readsTileEvent (wsV RX10 230 RX10 yX10_readsItems wsX10_readsItems) := goodIn_app (goodIn_of _ (by decide +kernel)) ggX10_readsTileEvent_X10_readsItems
set_option maxRecDepth 20000 in
theorem ggX10_readsTileEvent_X10_readsSpill : GoodIn wsX10_readsTileEvent wsX10_readsSpill := goodIn_ca (goodIn_r _ [145, 13, 96, 68, 69, 70, 4, 71, 6, 72, 8, 7, 14, 73, 74, 75, 76, 77, 78, 79, 80, 81, 82, 83, 84, 85, 86, 87, 146, 147, 148, 149, 138, 139, 140, 141, 97, 98, 99, 100, 9, 10, 11, 12, 101, 102, 103, 104, 105, 114, 115, 116, 117, 150, 151, 152, 153, 154, 155, 156, 157, 158, 159, 160, 161, 162, 163, 164, 165, 166, 167, 168, 169, 170, 171, 172, 173, 174, 175] (by decide +kernel) (by decide +kernel)) (goodIn_sub (fun _ h => List.mem_cons_of_mem _ (List.mem_append_right _ h)) (by decide +kernel))
set_option maxRecDepth 20000 in
theorem gX10_readsTileEvent_X10_readsSpill : GoodIn wsX10_readsTileEvent (wsV RX10 280 RX10 yX10_readsSpill wsX10_readsSpill) := goodIn_app (goodIn_of _ (by decide +kernel)) ggX10_readsTileEvent_X10_readsSpill
theorem dX10_readsTileEvent_0 : decode cX10_readsTileEvent 0 = .ok (.aload_n 0, 1) := by decide +kernel
theorem dX10_readsTileEvent_1 : decode cX10_readsTileEvent 1 = .ok (.ldc_w 260, 3) := by decide +kernel
theorem dX10_readsTileEvent_4 : decode cX10_readsTileEvent 4 = .ok (.invokevirtual 120, 3) := by decide +kernel
theorem dX10_readsTileEvent_7 : decode cX10_readsTileEvent 7 = .ok (.ifCond .eq 11, 3) := by decide +kernel
theorem dX10_readsTileEvent_10 : decode cX10_readsTileEvent 10 = .ok (.aload_n 0, 1) := by decide +kernel
theorem dX10_readsTileEvent_11 : decode cX10_readsTileEvent 11 = .ok (.iconst 0, 1) := by decide +kernel
theorem dX10_readsTileEvent_12 : decode cX10_readsTileEvent 12 = .ok (.invokevirtual 230, 3) := by decide +kernel
theorem dX10_readsTileEvent_15 : decode cX10_readsTileEvent 15 = .ok (.goto 25, 3) := by decide +kernel
theorem dX10_readsTileEvent_18 : decode cX10_readsTileEvent 18 = .ok (.aload_n 0, 1) := by decide +kernel
theorem dX10_readsTileEvent_19 : decode cX10_readsTileEvent 19 = .ok (.ldc_w 264, 3) := by decide +kernel
theorem dX10_readsTileEvent_22 : decode cX10_readsTileEvent 22 = .ok (.invokevirtual 120, 3) := by decide +kernel
theorem dX10_readsTileEvent_25 : decode cX10_readsTileEvent 25 = .ok (.ifCond .eq 11, 3) := by decide +kernel
theorem dX10_readsTileEvent_28 : decode cX10_readsTileEvent 28 = .ok (.aload_n 0, 1) := by decide +kernel
theorem dX10_readsTileEvent_29 : decode cX10_readsTileEvent 29 = .ok (.iconst 1, 1) := by decide +kernel
theorem dX10_readsTileEvent_30 : decode cX10_readsTileEvent 30 = .ok (.invokevirtual 230, 3) := by decide +kernel
theorem dX10_readsTileEvent_33 : decode cX10_readsTileEvent 33 = .ok (.goto 7, 3) := by decide +kernel
theorem dX10_readsTileEvent_36 : decode cX10_readsTileEvent 36 = .ok (.aload_n 0, 1) := by decide +kernel
theorem dX10_readsTileEvent_37 : decode cX10_readsTileEvent 37 = .ok (.invokevirtual 280, 3) := by decide +kernel
theorem dX10_readsTileEvent_40 : decode cX10_readsTileEvent 40 = .ok (.return_, 1) := by decide +kernel
set_option maxRecDepth 20000 in
theorem ggX10_readsEvent_X10_isTileEvent : GoodIn wsX10_readsEvent wsX10_isTileEvent := goodIn_ca (goodIn_r _ [5, 6, 7, 8, 4, 9, 10, 11, 12, 13, 14, 15, 16, 17, 18, 19, 20, 21, 22, 23, 24, 25, 26, 27, 28, 29, 30, 31, 32, 33, 34, 35, 36, 37, 38, 39, 40, 41, 42, 43, 44, 45, 46, 47, 48, 49, 50, 51, 52, 53, 54, 55, 56, 57, 58, 59, 60, 61, 62, 63, 64, 65, 66, 67, 333, 334, 335, 336, 337, 338, 339, 340, 341, 342, 343, 344, 345, 346, 347, 348, 349, 350, 351, 352, 353, 354, 355, 356, 357, 358] (by decide +kernel) (by decide +kernel)) (goodIn_sub (fun _ h => List.mem_cons_of_mem _ (List.mem_append_right _ h)) (by decide +kernel))
set_option maxRecDepth 20000 in
theorem gX10_readsEvent_X10_isTileEvent : GoodIn wsX10_readsEvent (wsV RX10 283 RX10 yX10_isTileEvent wsX10_isTileEvent) := goodIn_app (goodIn_of _ (by decide +kernel)) ggX10_readsEvent_X10_isTileEvent
set_option maxRecDepth 20000 in
theorem ggX10_readsEvent_X10_isOtherEvent : GoodIn wsX10_readsEvent wsX10_isOtherEvent := goodIn_ca (goodIn_r _ [71, 6, 7, 8, 4, 9, 10, 11, 12, 13, 14, 15, 16, 17, 18, 19, 20, 21, 22, 23, 24, 25, 26, 27, 28, 29, 30, 31, 32, 33, 34, 35, 36, 37, 38, 39, 40, 41, 42, 43, 44, 45, 46, 47, 48, 49, 50, 51, 52, 53, 54, 55, 56, 57, 58, 59, 60, 61, 62, 63, 64, 65, 66, 67, 333, 334, 335, 336, 337, 338, 339, 340, 341, 342, 343, 344, 345, 346, 347, 348, 349, 350, 351, 352, 353, 354, 355, 356, 357, 358] (by decide +kernel) (by decide +kernel)) (goodIn_sub (fun _ h => List.mem_cons_of_mem _ (List.mem_append_right _ h)) (by decide +kernel))
set_option maxRecDepth 20000 in
theorem gX10_readsEvent_X10_isOtherEvent : GoodIn wsX10_readsEvent (wsV RX10 286 RX10 yX10_isOtherEvent wsX10_isOtherEvent) := goodIn_app (goodIn_of _ (by decide +kernel)) ggX10_readsEvent_X10_isOtherEvent
set_option maxRecDepth 20000 in
theorem ggX10_readsEvent_X10_faults : GoodIn wsX10_readsEvent wsX10_faults := goodIn_r _ [75, 17, 11, 76, 333, 334, 335, 336, 337, 338, 339, 340, 341, 342, 343, 344, 345, 346, 347, 348, 349, 350, 351, 352, 353, 354] (by decide +kernel) (by decide +kernel)
set_option maxRecDepth 20000 in
theorem gX10_readsEvent_X10_faults : GoodIn wsX10_readsEvent (wsV RX10 105 RX10 yX10_faults wsX10_faults) := goodIn_app (goodIn_of _ (by decide +kernel)) ggX10_readsEvent_X10_faults
set_option maxRecDepth 20000 in
theorem ggX10_readsEvent_X10_begins : GoodIn wsX10_readsEvent wsX10_begins := goodIn_ca (goodIn_r _ [80, 81, 17, 82, 83, 84, 4, 85, 86, 87, 88, 89, 90, 91, 92, 93, 94, 95, 96, 97, 98, 99, 100, 101, 102, 103, 104, 105, 106, 107, 108, 109, 110, 111, 112, 113, 114, 115, 116, 117, 118, 119, 120, 121, 333, 334, 335, 336, 337, 338, 339, 340, 341, 342, 343, 344, 345, 346, 347, 348, 349, 350, 351, 352, 353, 354] (by decide +kernel) (by decide +kernel)) (goodIn_sub (fun _ h => List.mem_cons_of_mem _ (List.mem_append_right _ h)) (by decide +kernel))
set_option maxRecDepth 20000 in
theorem gX10_readsEvent_X10_begins : GoodIn wsX10_readsEvent (wsV RX10 289 RX10 yX10_begins wsX10_begins) := goodIn_app (goodIn_of _ (by decide +kernel)) ggX10_readsEvent_X10_begins
set_option maxRecDepth 20000 in
theorem ggX10_readsEvent_X10_readsTileEvent : GoodIn wsX10_readsEvent wsX10_readsTileEvent := goodIn_ca (goodIn_r _ [125, 6, 7, 8, 4, 9, 10, 11, 12, 13, 14, 15, 16, 17, 18, 19, 20, 21, 22, 23, 24, 25, 26, 27, 28, 29, 30, 31, 32, 33, 34, 35, 36, 37, 38, 39, 40, 41, 42, 43, 44, 45, 46, 47, 48, 49, 50, 51, 52, 53, 54, 55, 56, 57, 58, 59, 60, 61, 62, 63, 64, 65, 66, 67, 126, 127, 128, 129, 130, 131, 132, 133, 134, 135, 136, 137, 138, 139, 99, 100, 101, 140, 141, 142, 143, 144, 145, 146, 147, 148, 149, 150, 151, 152, 153, 154, 86, 155, 156, 157, 158, 72, 73, 74, 75, 76, 159, 160, 161, 162, 163, 164, 165, 166, 167, 168, 169, 170, 118, 119, 120, 121, 171, 172, 173, 174, 175, 176, 177, 178, 179, 180, 181, 182, 183, 184, 185, 186, 187, 188, 189, 190, 191, 192, 193, 194, 195, 196, 197, 198, 199, 200, 201, 202, 333, 334, 335, 336, 337, 338, 339, 340, 341, 342, 343, 344, 345, 346, 347, 348, 349, 350, 351, 352, 353, 354, 355, 356, 357, 358] (by decide +kernel) (by decide +kernel)) (goodIn_sub (fun _ h => List.mem_cons_of_mem _ (List.mem_append_right _ h)) (by decide +kernel))
set_option maxRecDepth 20000 in
theorem gX10_readsEvent_X10_readsTileEvent : GoodIn wsX10_readsEvent (wsV RX10 292 RX10 yX10_readsTileEvent wsX10_readsTileEvent) := goodIn_app (goodIn_of _ (by decide +kernel)) ggX10_readsEvent_X10_readsTileEvent
set_option maxRecDepth 20000 in
theorem ggX10_readsEvent_X10_isWord : GoodIn wsX10_readsEvent wsX10_isWord := goodIn_ca (goodIn_r _ [9, 10, 11, 12, 13, 14, 15, 4, 16, 17, 18, 19, 20, 21, 22, 23, 24, 25, 26, 27, 28, 29, 30, 31, 32, 33, 34, 35, 36, 37, 38, 39, 40, 41, 42, 43, 44, 45, 46, 47, 48, 49, 50, 51, 52, 53, 54, 55, 56, 57, 58, 59, 60, 61, 62, 63, 64, 65, 66, 67, 333, 334, 335, 336, 337, 338, 339, 340, 341, 342, 343, 344, 345, 346, 347, 348, 349, 350, 351, 352, 353, 354, 355, 356, 357, 358] (by decide +kernel) (by decide +kernel)) (goodIn_sub (fun _ h => List.mem_cons_of_mem _ (List.mem_append_right _ h)) (by decide +kernel))
set_option maxRecDepth 20000 in
theorem gX10_readsEvent_X10_isWord : GoodIn wsX10_readsEvent (wsV RX10 120 RX10 yX10_isWord wsX10_isWord) := goodIn_app (goodIn_of _ (by decide +kernel)) ggX10_readsEvent_X10_isWord
set_option maxRecDepth 20000 in
theorem ggX10_readsEvent_X10_readsTurn : GoodIn wsX10_readsEvent wsX10_readsTurn := goodIn_ca (goodIn_r _ [206, 86, 130, 131, 132, 4, 133, 17, 10, 134, 12, 11, 18, 135, 136, 137, 138, 139, 99, 100, 101, 140, 141, 142, 143, 144, 145, 146, 333, 334, 335, 336, 337, 338, 339, 340, 341, 342, 343, 344, 345, 346, 347, 348, 349, 350, 351, 352, 353, 354] (by decide +kernel) (by decide +kernel)) (goodIn_sub (fun _ h => List.mem_cons_of_mem _ (List.mem_append_right _ h)) (by decide +kernel))
set_option maxRecDepth 20000 in
theorem gX10_readsEvent_X10_readsTurn : GoodIn wsX10_readsEvent (wsV RX10 295 RX10 yX10_readsTurn wsX10_readsTurn) := goodIn_app (goodIn_of _ (by decide +kernel)) ggX10_readsEvent_X10_readsTurn
set_option maxRecDepth 20000 in
theorem ggX10_readsEvent_X10_readsNumber : GoodIn wsX10_readsEvent wsX10_readsNumber := goodIn_ca (goodIn_r _ [210, 17, 86, 130, 131, 132, 4, 133, 10, 134, 12, 11, 18, 135, 136, 137, 138, 139, 99, 100, 101, 140, 141, 142, 143, 144, 145, 146, 199, 200, 201, 202, 155, 156, 157, 158, 13, 14, 15, 16, 72, 73, 74, 75, 76, 333, 334, 335, 336, 337, 338, 339, 340, 341, 342, 343, 344, 345, 346, 347, 348, 349, 350, 351, 352, 353, 354] (by decide +kernel) (by decide +kernel)) (goodIn_sub (fun _ h => List.mem_cons_of_mem _ (List.mem_append_right _ h)) (by decide +kernel))
set_option maxRecDepth 20000 in
theorem gX10_readsEvent_X10_readsNumber : GoodIn wsX10_readsEvent (wsV RX10 208 RX10 yX10_readsNumber wsX10_readsNumber) := goodIn_app (goodIn_of _ (by decide +kernel)) ggX10_readsEvent_X10_readsNumber
set_option maxRecDepth 20000 in
theorem ggX10_readsEvent_X10_readsCurtainsOf : GoodIn wsX10_readsEvent wsX10_readsCurtainsOf := goodIn_ca (goodIn_r _ [214, 130, 131, 132, 4, 133, 17, 10, 134, 12, 11, 18, 135, 136, 137, 138, 139, 99, 100, 101, 140, 141, 142, 143, 144, 145, 146, 215, 216, 217, 218, 86, 155, 156, 157, 158, 13, 14, 15, 16, 72, 73, 74, 75, 76, 333, 334, 335, 336, 337, 338, 339, 340, 341, 342, 343, 344, 345, 346, 347, 348, 349, 350, 351, 352, 353, 354] (by decide +kernel) (by decide +kernel)) (goodIn_sub (fun _ h => List.mem_cons_of_mem _ (List.mem_append_right _ h)) (by decide +kernel))
set_option maxRecDepth 20000 in
theorem gX10_readsEvent_X10_readsCurtainsOf : GoodIn wsX10_readsEvent (wsV RX10 221 RX10 yX10_readsCurtainsOf wsX10_readsCurtainsOf) := goodIn_app (goodIn_of _ (by decide +kernel)) ggX10_readsEvent_X10_readsCurtainsOf
set_option maxRecDepth 20000 in
theorem ggX10_readsEvent_X10_readsCarry : GoodIn wsX10_readsEvent wsX10_readsCarry := goodIn_ca (goodIn_r _ [222, 17, 86, 130, 131, 132, 4, 133, 10, 134, 12, 11, 18, 135, 136, 137, 138, 139, 99, 100, 101, 140, 141, 142, 143, 144, 145, 146, 187, 188, 189, 190, 155, 156, 157, 158, 13, 14, 15, 16, 72, 73, 74, 75, 76, 333, 334, 335, 336, 337, 338, 339, 340, 341, 342, 343, 344, 345, 346, 347, 348, 349, 350, 351, 352, 353, 354] (by decide +kernel) (by decide +kernel)) (goodIn_sub (fun _ h => List.mem_cons_of_mem _ (List.mem_append_right _ h)) (by decide +kernel))
set_option maxRecDepth 20000 in
theorem gX10_readsEvent_X10_readsCarry : GoodIn wsX10_readsEvent (wsV RX10 298 RX10 yX10_readsCarry wsX10_readsCarry) := goodIn_app (goodIn_of _ (by decide +kernel)) ggX10_readsEvent_X10_readsCarry
set_option maxRecDepth 20000 in
theorem ggX10_readsEvent_X10_readsSleep : GoodIn wsX10_readsEvent wsX10_readsSleep := goodIn_ca (goodIn_r _ [226, 86, 227, 17, 72, 73, 74, 4, 75, 11, 76, 130, 131, 132, 133, 10, 134, 12, 18, 135, 136, 137, 138, 139, 99, 100, 101, 140, 141, 142, 143, 144, 145, 146, 228, 229, 230, 231, 232, 233, 234, 235, 236, 237, 238, 239, 240, 241, 242, 243, 187, 188, 189, 190, 118, 119, 120, 121, 244, 245, 246, 247, 248, 249, 250, 251, 252, 253, 254, 255, 256, 257, 258, 259, 260, 261, 262, 263, 264, 265, 266, 267, 268, 269, 87, 88, 89, 90, 91, 92, 93, 94, 95, 96, 97, 98, 270, 271, 272, 273, 274, 275, 276, 277, 278, 279, 280, 281, 110, 111, 112, 113, 282, 283, 284, 285, 167, 168, 169, 170, 286, 287, 288, 289, 290, 291, 292, 293, 294, 295, 296, 297, 298, 299, 300, 301, 302, 303, 304, 305, 306, 307, 308, 309, 310, 311, 312, 313, 314, 315, 316, 82, 83, 84, 85, 102, 103, 104, 105, 106, 107, 108, 109, 114, 115, 116, 117, 333, 334, 335, 336, 337, 338, 339, 340, 341, 342, 343, 344, 345, 346, 347, 348, 349, 350, 351, 352, 353, 354] (by decide +kernel) (by decide +kernel)) (goodIn_sub (fun _ h => List.mem_cons_of_mem _ (List.mem_append_right _ h)) (by decide +kernel))
set_option maxRecDepth 20000 in
theorem gX10_readsEvent_X10_readsSleep : GoodIn wsX10_readsEvent (wsV RX10 301 RX10 yX10_readsSleep wsX10_readsSleep) := goodIn_app (goodIn_of _ (by decide +kernel)) ggX10_readsEvent_X10_readsSleep
set_option maxRecDepth 20000 in
theorem ggX10_readsEvent_X10_readsAdvance : GoodIn wsX10_readsEvent wsX10_readsAdvance := goodIn_ca (goodIn_r _ [320, 17, 227, 130, 131, 132, 4, 133, 10, 134, 12, 11, 18, 135, 136, 137, 138, 139, 99, 100, 101, 140, 141, 142, 143, 144, 145, 146, 155, 156, 157, 158, 13, 14, 15, 16, 72, 73, 74, 75, 76, 228, 229, 230, 231, 232, 233, 234, 235, 86, 236, 237, 238, 239, 240, 241, 242, 243, 187, 188, 189, 190, 118, 119, 120, 121, 244, 245, 246, 247, 248, 249, 250, 251, 252, 253, 254, 255, 256, 257, 258, 259, 260, 261, 262, 263, 264, 265, 266, 267, 268, 269, 87, 88, 89, 90, 91, 92, 93, 94, 95, 96, 97, 98, 270, 271, 272, 273, 274, 275, 276, 277, 278, 279, 280, 281, 110, 111, 112, 113, 282, 283, 284, 285, 167, 168, 169, 170, 286, 287, 288, 289, 290, 291, 292, 293, 294, 295, 296, 297, 298, 299, 300, 301, 302, 303, 304, 305, 306, 307, 308, 309, 310, 311, 312, 313, 314, 315, 316, 82, 83, 84, 85, 102, 103, 104, 105, 106, 107, 108, 109, 114, 115, 116, 117, 333, 334, 335, 336, 337, 338, 339, 340, 341, 342, 343, 344, 345, 346, 347, 348, 349, 350, 351, 352, 353, 354] (by decide +kernel) (by decide +kernel)) (goodIn_sub (fun _ h => List.mem_cons_of_mem _ (List.mem_append_right _ h)) (by decide +kernel))
set_option maxRecDepth 20000 in
theorem gX10_readsEvent_X10_readsAdvance : GoodIn wsX10_readsEvent (wsV RX10 304 RX10 yX10_readsAdvance wsX10_readsAdvance) := goodIn_app (goodIn_of _ (by decide +kernel)) ggX10_readsEvent_X10_readsAdvance
set_option maxRecDepth 20000 in
theorem ggX10_readsEvent_X10_readsRepeat : GoodIn wsX10_readsEvent wsX10_readsRepeat := goodIn_ca (goodIn_r _ [328, 329, 10, 17, 72, 73, 74, 4, 75, 11, 76, 130, 131, 132, 133, 134, 12, 18, 135, 136, 137, 138, 139, 99, 100, 101, 140, 141, 142, 143, 144, 145, 146, 199, 200, 201, 202, 155, 156, 157, 158, 13, 14, 15, 16, 330, 331, 332, 0, 1, 2, 3, 5, 6, 7, 8, 9, 19, 20, 21, 22, 23, 24, 25, 26, 27, 28, 29, 30, 31, 32, 33, 34, 35, 36, 37, 38, 39, 40, 41, 42, 43, 44, 45, 46, 47, 48, 49, 50, 51, 52, 53, 54, 55, 56, 57, 58, 59, 60, 61, 62, 63, 64, 65, 66, 67, 68, 69, 70, 71, 77, 78, 79, 80, 81, 82, 83, 84, 85, 86, 87, 88, 89, 90, 91, 92, 93, 94, 95, 96, 97, 98, 102, 103, 104, 105, 106, 107, 108, 109, 110, 111, 112, 113, 114, 115, 116, 117, 118, 119, 120, 121, 122, 123, 124, 125, 126, 127, 128, 129, 147, 148, 149, 150, 151, 152, 153, 154, 159, 160, 161, 162, 163, 164, 165, 166, 167, 168, 169, 170, 171, 172, 173, 174, 175, 176, 177, 178, 179, 180, 181, 182, 183, 184, 185, 186, 187, 188, 189, 190, 191, 192, 193, 194, 195, 196, 197, 198, 203, 204, 205, 206, 207, 208, 209, 210, 211, 212, 213, 214, 215, 216, 217, 218, 219, 220, 221, 222, 223, 224, 225, 226, 227, 228, 229, 230, 231, 232, 233, 234, 235, 236, 237, 238, 239, 240, 241, 242, 243, 244, 245, 246, 247, 248, 249, 250, 251, 252, 253, 254, 255, 256, 257, 258, 259, 260, 261, 262, 263, 264, 265, 266, 267, 268, 269, 270, 271, 272, 273, 274, 275, 276, 277, 278, 279, 280, 281, 282, 283, 284, 285, 286, 287, 288, 289, 290, 291, 292, 293, 294, 295, 296, 297, 298, 299, 300, 301, 302, 303, 304, 305, 306, 307, 308, 309, 310, 311, 312, 313, 314, 315, 316, 317, 318, 319, 320, 321, 322, 323, 324, 325, 326, 327, 333, 334, 335, 336, 337, 338, 339, 340, 341, 342, 343, 344, 345, 346, 347, 348, 349, 350, 351, 352, 353, 354, 355, 356, 357, 358] (by decide +kernel) (by decide +kernel)) (goodIn_sub (fun _ h => List.mem_cons_of_mem _ (List.mem_append_right _ h)) (by decide +kernel))
set_option maxRecDepth 20000 in
theorem gX10_readsEvent_X10_readsRepeat : GoodIn wsX10_readsEvent (wsV RX10 307 RX10 yX10_readsRepeat wsX10_readsRepeat) := goodIn_app (goodIn_of _ (by decide +kernel)) ggX10_readsEvent_X10_readsRepeat
theorem dX10_readsEvent_0 : decode cX10_readsEvent 0 = .ok (.aload_n 0, 1) := by decide +kernel
theorem dX10_readsEvent_1 : decode cX10_readsEvent 1 = .ok (.invokevirtual 283, 3) := by decide +kernel
theorem dX10_readsEvent_4 : decode cX10_readsEvent 4 = .ok (.ifCond .ne 15, 3) := by decide +kernel
theorem dX10_readsEvent_7 : decode cX10_readsEvent 7 = .ok (.aload_n 0, 1) := by decide +kernel
theorem dX10_readsEvent_8 : decode cX10_readsEvent 8 = .ok (.invokevirtual 286, 3) := by decide +kernel
theorem dX10_readsEvent_11 : decode cX10_readsEvent 11 = .ok (.ifCond .ne 8, 3) := by decide +kernel
theorem dX10_readsEvent_14 : decode cX10_readsEvent 14 = .ok (.aload_n 0, 1) := by decide +kernel
theorem dX10_readsEvent_15 : decode cX10_readsEvent 15 = .ok (.iconst 1, 1) := by decide +kernel
theorem dX10_readsEvent_16 : decode cX10_readsEvent 16 = .ok (.invokevirtual 105, 3) := by decide +kernel
theorem dX10_readsEvent_19 : decode cX10_readsEvent 19 = .ok (.aload_n 0, 1) := by decide +kernel
theorem dX10_readsEvent_20 : decode cX10_readsEvent 20 = .ok (.invokevirtual 289, 3) := by decide +kernel
theorem dX10_readsEvent_23 : decode cX10_readsEvent 23 = .ok (.aload_n 0, 1) := by decide +kernel
theorem dX10_readsEvent_24 : decode cX10_readsEvent 24 = .ok (.invokevirtual 283, 3) := by decide +kernel
theorem dX10_readsEvent_27 : decode cX10_readsEvent 27 = .ok (.ifCond .eq 10, 3) := by decide +kernel
theorem dX10_readsEvent_30 : decode cX10_readsEvent 30 = .ok (.aload_n 0, 1) := by decide +kernel
theorem dX10_readsEvent_31 : decode cX10_readsEvent 31 = .ok (.invokevirtual 292, 3) := by decide +kernel
theorem dX10_readsEvent_34 : decode cX10_readsEvent 34 = .ok (.goto 140, 3) := by decide +kernel
theorem dX10_readsEvent_37 : decode cX10_readsEvent 37 = .ok (.aload_n 0, 1) := by decide +kernel
theorem dX10_readsEvent_38 : decode cX10_readsEvent 38 = .ok (.ldc_w 266, 3) := by decide +kernel
theorem dX10_readsEvent_41 : decode cX10_readsEvent 41 = .ok (.invokevirtual 120, 3) := by decide +kernel
theorem dX10_readsEvent_44 : decode cX10_readsEvent 44 = .ok (.ifCond .eq 10, 3) := by decide +kernel
theorem dX10_readsEvent_47 : decode cX10_readsEvent 47 = .ok (.aload_n 0, 1) := by decide +kernel
theorem dX10_readsEvent_48 : decode cX10_readsEvent 48 = .ok (.invokevirtual 295, 3) := by decide +kernel
theorem dX10_readsEvent_51 : decode cX10_readsEvent 51 = .ok (.goto 123, 3) := by decide +kernel
theorem dX10_readsEvent_54 : decode cX10_readsEvent 54 = .ok (.aload_n 0, 1) := by decide +kernel
theorem dX10_readsEvent_55 : decode cX10_readsEvent 55 = .ok (.ldc 180, 2) := by decide +kernel
theorem dX10_readsEvent_57 : decode cX10_readsEvent 57 = .ok (.invokevirtual 120, 3) := by decide +kernel
theorem dX10_readsEvent_60 : decode cX10_readsEvent 60 = .ok (.ifCond .eq 13, 3) := by decide +kernel
theorem dX10_readsEvent_63 : decode cX10_readsEvent 63 = .ok (.aload_n 0, 1) := by decide +kernel
theorem dX10_readsEvent_64 : decode cX10_readsEvent 64 = .ok (.iconst 3, 1) := by decide +kernel
theorem dX10_readsEvent_65 : decode cX10_readsEvent 65 = .ok (.iconst 1, 1) := by decide +kernel
theorem dX10_readsEvent_66 : decode cX10_readsEvent 66 = .ok (.iconst 5, 1) := by decide +kernel
theorem dX10_readsEvent_67 : decode cX10_readsEvent 67 = .ok (.invokevirtual 208, 3) := by decide +kernel
theorem dX10_readsEvent_70 : decode cX10_readsEvent 70 = .ok (.goto 104, 3) := by decide +kernel
theorem dX10_readsEvent_73 : decode cX10_readsEvent 73 = .ok (.aload_n 0, 1) := by decide +kernel
theorem dX10_readsEvent_74 : decode cX10_readsEvent 74 = .ok (.ldc_w 272, 3) := by decide +kernel
theorem dX10_readsEvent_77 : decode cX10_readsEvent 77 = .ok (.invokevirtual 120, 3) := by decide +kernel
theorem dX10_readsEvent_80 : decode cX10_readsEvent 80 = .ok (.ifCond .eq 11, 3) := by decide +kernel
theorem dX10_readsEvent_83 : decode cX10_readsEvent 83 = .ok (.aload_n 0, 1) := by decide +kernel
theorem dX10_readsEvent_84 : decode cX10_readsEvent 84 = .ok (.iconst 0, 1) := by decide +kernel
theorem dX10_readsEvent_85 : decode cX10_readsEvent 85 = .ok (.invokevirtual 221, 3) := by decide +kernel
theorem dX10_readsEvent_88 : decode cX10_readsEvent 88 = .ok (.goto 86, 3) := by decide +kernel
theorem dX10_readsEvent_91 : decode cX10_readsEvent 91 = .ok (.aload_n 0, 1) := by decide +kernel
theorem dX10_readsEvent_92 : decode cX10_readsEvent 92 = .ok (.ldc_w 274, 3) := by decide +kernel
theorem dX10_readsEvent_95 : decode cX10_readsEvent 95 = .ok (.invokevirtual 120, 3) := by decide +kernel
theorem dX10_readsEvent_98 : decode cX10_readsEvent 98 = .ok (.ifCond .eq 11, 3) := by decide +kernel
theorem dX10_readsEvent_101 : decode cX10_readsEvent 101 = .ok (.aload_n 0, 1) := by decide +kernel
theorem dX10_readsEvent_102 : decode cX10_readsEvent 102 = .ok (.iconst 1, 1) := by decide +kernel
theorem dX10_readsEvent_103 : decode cX10_readsEvent 103 = .ok (.invokevirtual 221, 3) := by decide +kernel
theorem dX10_readsEvent_106 : decode cX10_readsEvent 106 = .ok (.goto 68, 3) := by decide +kernel
theorem dX10_readsEvent_109 : decode cX10_readsEvent 109 = .ok (.aload_n 0, 1) := by decide +kernel
theorem dX10_readsEvent_110 : decode cX10_readsEvent 110 = .ok (.ldc_w 276, 3) := by decide +kernel
theorem dX10_readsEvent_113 : decode cX10_readsEvent 113 = .ok (.invokevirtual 120, 3) := by decide +kernel
theorem dX10_readsEvent_116 : decode cX10_readsEvent 116 = .ok (.ifCond .eq 10, 3) := by decide +kernel
theorem dX10_readsEvent_119 : decode cX10_readsEvent 119 = .ok (.aload_n 0, 1) := by decide +kernel
theorem dX10_readsEvent_120 : decode cX10_readsEvent 120 = .ok (.invokevirtual 298, 3) := by decide +kernel
theorem dX10_readsEvent_123 : decode cX10_readsEvent 123 = .ok (.goto 51, 3) := by decide +kernel
theorem dX10_readsEvent_126 : decode cX10_readsEvent 126 = .ok (.aload_n 0, 1) := by decide +kernel
theorem dX10_readsEvent_127 : decode cX10_readsEvent 127 = .ok (.ldc_w 278, 3) := by decide +kernel
theorem dX10_readsEvent_130 : decode cX10_readsEvent 130 = .ok (.invokevirtual 120, 3) := by decide +kernel
theorem dX10_readsEvent_133 : decode cX10_readsEvent 133 = .ok (.ifCond .eq 10, 3) := by decide +kernel
theorem dX10_readsEvent_136 : decode cX10_readsEvent 136 = .ok (.aload_n 0, 1) := by decide +kernel
theorem dX10_readsEvent_137 : decode cX10_readsEvent 137 = .ok (.invokevirtual 301, 3) := by decide +kernel
theorem dX10_readsEvent_140 : decode cX10_readsEvent 140 = .ok (.goto 34, 3) := by decide +kernel
theorem dX10_readsEvent_143 : decode cX10_readsEvent 143 = .ok (.aload_n 0, 1) := by decide +kernel
theorem dX10_readsEvent_144 : decode cX10_readsEvent 144 = .ok (.ldc_w 268, 3) := by decide +kernel
theorem dX10_readsEvent_147 : decode cX10_readsEvent 147 = .ok (.invokevirtual 120, 3) := by decide +kernel
theorem dX10_readsEvent_150 : decode cX10_readsEvent 150 = .ok (.ifCond .eq 10, 3) := by decide +kernel
theorem dX10_readsEvent_153 : decode cX10_readsEvent 153 = .ok (.aload_n 0, 1) := by decide +kernel
theorem dX10_readsEvent_154 : decode cX10_readsEvent 154 = .ok (.invokevirtual 304, 3) := by decide +kernel
theorem dX10_readsEvent_157 : decode cX10_readsEvent 157 = .ok (.goto 17, 3) := by decide +kernel
theorem dX10_readsEvent_160 : decode cX10_readsEvent 160 = .ok (.aload_n 0, 1) := by decide +kernel
theorem dX10_readsEvent_161 : decode cX10_readsEvent 161 = .ok (.ldc_w 270, 3) := by decide +kernel
theorem dX10_readsEvent_164 : decode cX10_readsEvent 164 = .ok (.invokevirtual 120, 3) := by decide +kernel
theorem dX10_readsEvent_167 : decode cX10_readsEvent 167 = .ok (.ifCond .eq 7, 3) := by decide +kernel
theorem dX10_readsEvent_170 : decode cX10_readsEvent 170 = .ok (.aload_n 0, 1) := by decide +kernel
theorem dX10_readsEvent_171 : decode cX10_readsEvent 171 = .ok (.invokevirtual 307, 3) := by decide +kernel
theorem dX10_readsEvent_174 : decode cX10_readsEvent 174 = .ok (.return_, 1) := by decide +kernel
set_option maxRecDepth 20000 in
theorem ggX10_readsText_X10_goes : GoodIn wsX10_readsText wsX10_goes := goodIn_ca (goodIn_r _ [7, 8, 9, 10, 11, 12, 13, 14, 15, 16, 17, 6, 18, 19, 20, 21, 22, 23, 24, 25, 26, 27, 28, 370, 371, 372, 373, 374, 375, 376, 377, 378, 379, 380, 381, 382, 383, 384, 385, 386, 387, 388, 389, 390, 391] (by decide +kernel) (by decide +kernel)) (goodIn_sub (fun _ h => List.mem_cons_of_mem _ (List.mem_append_right _ h)) (by decide +kernel))
set_option maxRecDepth 20000 in
theorem gX10_readsText_X10_goes : GoodIn wsX10_readsText (wsV RX10 112 RX10 yX10_goes wsX10_goes) := goodIn_app (goodIn_of _ (by decide +kernel)) ggX10_readsText_X10_goes
set_option maxRecDepth 20000 in
theorem ggX10_readsText_X10_isWord : GoodIn wsX10_readsText wsX10_isWord := goodIn_ca (goodIn_r _ [32, 9, 12, 11, 33, 34, 35, 6, 36, 8, 13, 37, 38, 39, 40, 41, 42, 43, 44, 45, 46, 47, 48, 49, 50, 51, 52, 53, 54, 55, 56, 57, 58, 59, 60, 61, 62, 63, 64, 65, 66, 67, 68, 69, 70, 71, 72, 73, 74, 75, 76, 77, 78, 79, 80, 81, 82, 83, 84, 85, 370, 371, 372, 373, 374, 375, 376, 377, 378, 379, 380, 381, 382, 383, 384, 385, 386, 387, 388, 389, 390, 391, 392, 393, 394, 395] (by decide +kernel) (by decide +kernel)) (goodIn_sub (fun _ h => List.mem_cons_of_mem _ (List.mem_append_right _ h)) (by decide +kernel))
set_option maxRecDepth 20000 in
theorem gX10_readsText_X10_isWord : GoodIn wsX10_readsText (wsV RX10 120 RX10 yX10_isWord wsX10_isWord) := goodIn_app (goodIn_of _ (by decide +kernel)) ggX10_readsText_X10_isWord
set_option maxRecDepth 20000 in
theorem ggX10_readsText_X10_faults : GoodIn wsX10_readsText wsX10_faults := goodIn_r _ [89, 8, 12, 90, 370, 371, 372, 373, 374, 375, 376, 377, 378, 379, 380, 381, 382, 383, 384, 385, 386, 387, 388, 389, 390, 391] (by decide +kernel) (by decide +kernel)
set_option maxRecDepth 20000 in
theorem gX10_readsText_X10_faults : GoodIn wsX10_readsText (wsV RX10 105 RX10 yX10_faults wsX10_faults) := goodIn_app (goodIn_of _ (by decide +kernel)) ggX10_readsText_X10_faults
set_option maxRecDepth 20000 in
theorem ggX10_readsText_X10_number : GoodIn wsX10_readsText wsX10_number := goodIn_ca (goodIn_r _ [94, 95, 96, 97, 6, 98, 14, 8, 33, 34, 35, 36, 13, 86, 87, 88, 89, 12, 90, 19, 20, 21, 3, 4, 5, 7, 9, 10, 11, 15, 16, 17, 18, 22, 23, 24, 25, 26, 27, 28, 370, 371, 372, 373, 374, 375, 376, 377, 378, 379, 380, 381, 382, 383, 384, 385, 386, 387, 388, 389, 390, 391] (by decide +kernel) (by decide +kernel)) (goodIn_sub (fun _ h => List.mem_cons_of_mem _ (List.mem_append_right _ h)) (by decide +kernel))
set_option maxRecDepth 20000 in
theorem gX10_readsText_X10_number : GoodIn wsX10_readsText (wsV RX10 115 RX10 yX10_number wsX10_number) := goodIn_app (goodIn_of _ (by decide +kernel)) ggX10_readsText_X10_number
set_option maxRecDepth 20000 in
theorem ggX10_readsText_X10_is : GoodIn wsX10_readsText wsX10_is := goodIn_r _ [36, 8, 13, 370, 371, 372, 373, 374, 375, 376, 377, 378, 379, 380, 381, 382, 383, 384, 385, 386, 387, 388, 389, 390, 391] (by decide +kernel) (by decide +kernel)
set_option maxRecDepth 20000 in
theorem gX10_readsText_X10_is : GoodIn wsX10_readsText (wsV RX10 92 RX10 yX10_is wsX10_is) := goodIn_app (goodIn_of _ (by decide +kernel)) ggX10_readsText_X10_is
set_option maxRecDepth 20000 in
theorem ggX10_readsText_X10_isSetting : GoodIn wsX10_readsText wsX10_isSetting := goodIn_ca (goodIn_r _ [102, 103, 104, 105, 6, 106, 29, 30, 31, 32, 9, 12, 11, 33, 34, 35, 36, 8, 13, 37, 38, 39, 40, 41, 42, 43, 44, 45, 46, 47, 48, 49, 50, 51, 52, 53, 54, 55, 56, 57, 58, 59, 60, 61, 62, 63, 64, 65, 66, 67, 68, 69, 70, 71, 72, 73, 74, 75, 76, 77, 78, 79, 80, 81, 82, 83, 84, 85, 370, 371, 372, 373, 374, 375, 376, 377, 378, 379, 380, 381, 382, 383, 384, 385, 386, 387, 388, 389, 390, 391, 392, 393, 394, 395] (by decide +kernel) (by decide +kernel)) (goodIn_sub (fun _ h => List.mem_cons_of_mem _ (List.mem_append_right _ h)) (by decide +kernel))
set_option maxRecDepth 20000 in
theorem gX10_readsText_X10_isSetting : GoodIn wsX10_readsText (wsV RX10 312 RX10 yX10_isSetting wsX10_isSetting) := goodIn_app (goodIn_of _ (by decide +kernel)) ggX10_readsText_X10_isSetting
set_option maxRecDepth 20000 in
theorem ggX10_readsText_X10_readsSetting : GoodIn wsX10_readsText wsX10_readsSetting := goodIn_ca (goodIn_r _ [110, 103, 104, 105, 6, 106, 29, 30, 31, 32, 9, 12, 11, 33, 34, 35, 36, 8, 13, 37, 38, 39, 40, 41, 42, 43, 44, 45, 46, 47, 48, 49, 50, 51, 52, 53, 54, 55, 56, 57, 58, 59, 60, 61, 62, 63, 64, 65, 66, 67, 68, 69, 70, 71, 72, 73, 74, 75, 76, 77, 78, 79, 80, 81, 82, 83, 84, 85, 111, 112, 113, 114, 115, 116, 117, 118, 1, 3, 4, 5, 7, 10, 14, 15, 16, 17, 18, 19, 20, 21, 22, 23, 24, 25, 26, 27, 28, 91, 92, 93, 94, 95, 96, 97, 98, 86, 87, 88, 89, 90, 119, 120, 121, 122, 123, 124, 125, 126, 127, 128, 129, 130, 131, 132, 133, 134, 135, 136, 137, 138, 139, 140, 141, 142, 143, 144, 145, 146, 147, 148, 149, 150, 151, 152, 153, 154, 155, 156, 157, 158, 159, 160, 161, 162, 163, 164, 165, 166, 167, 168, 169, 170, 171, 172, 173, 174, 175, 176, 177, 178, 179, 180, 181, 182, 183, 184, 185, 186, 187, 188, 189, 190, 191, 192, 193, 194, 195, 196, 197, 370, 371, 372, 373, 374, 375, 376, 377, 378, 379, 380, 381, 382, 383, 384, 385, 386, 387, 388, 389, 390, 391, 392, 393, 394, 395] (by decide +kernel) (by decide +kernel)) (goodIn_sub (fun _ h => List.mem_cons_of_mem _ (List.mem_append_right _ h)) (by decide +kernel))
set_option maxRecDepth 20000 in
theorem gX10_readsText_X10_readsSetting : GoodIn wsX10_readsText (wsV RX10 315 RX10 yX10_readsSetting wsX10_readsSetting) := goodIn_app (goodIn_of _ (by decide +kernel)) ggX10_readsText_X10_readsSetting
set_option maxRecDepth 20000 in
theorem ggX10_readsText_X10_readsEvent : GoodIn wsX10_readsText wsX10_readsEvent := goodIn_ca (goodIn_r _ [201, 202, 203, 204, 6, 205, 29, 30, 31, 32, 9, 12, 11, 33, 34, 35, 36, 8, 13, 37, 38, 39, 40, 41, 42, 43, 44, 45, 46, 47, 48, 49, 50, 51, 52, 53, 54, 55, 56, 57, 58, 59, 60, 61, 62, 63, 64, 65, 66, 67, 68, 69, 70, 71, 72, 73, 74, 75, 76, 77, 78, 79, 80, 81, 82, 83, 84, 85, 206, 207, 208, 209, 86, 87, 88, 89, 90, 210, 211, 212, 213, 2, 214, 215, 216, 217, 1, 218, 219, 220, 221, 222, 223, 224, 225, 226, 227, 228, 229, 19, 20, 21, 230, 231, 232, 233, 234, 235, 236, 237, 238, 239, 240, 241, 242, 243, 244, 245, 178, 179, 180, 181, 246, 247, 248, 249, 154, 155, 156, 157, 3, 4, 5, 7, 10, 14, 15, 16, 17, 18, 22, 23, 24, 25, 26, 27, 28, 158, 159, 160, 161, 162, 163, 164, 165, 95, 96, 97, 98, 166, 167, 168, 169, 170, 171, 172, 173, 174, 175, 176, 177, 182, 183, 184, 185, 186, 187, 188, 189, 190, 191, 192, 193, 194, 195, 196, 197, 130, 131, 132, 133, 250, 251, 252, 253, 254, 255, 256, 257, 91, 92, 93, 94, 258, 259, 260, 261, 115, 116, 117, 118, 138, 139, 140, 141, 142, 143, 144, 145, 262, 263, 264, 265, 266, 267, 268, 269, 270, 271, 272, 273, 274, 275, 276, 277, 278, 279, 280, 281, 282, 283, 284, 285, 286, 287, 288, 289, 290, 291, 292, 293, 294, 295, 296, 297, 298, 123, 124, 125, 299, 300, 301, 302, 303, 304, 305, 306, 307, 308, 309, 310, 311, 312, 313, 314, 315, 316, 317, 318, 319, 320, 321, 322, 323, 324, 325, 326, 327, 328, 329, 330, 331, 332, 333, 334, 335, 336, 337, 338, 339, 340, 341, 342, 343, 344, 345, 346, 347, 348, 349, 350, 351, 352, 353, 354, 355, 356, 357, 358, 359, 360, 361, 362, 363, 364, 198, 199, 200, 365, 366, 367, 368, 369, 370, 371, 372, 373, 374, 375, 376, 377, 378, 379, 380, 381, 382, 383, 384, 385, 386, 387, 388, 389, 390, 391, 392, 393, 394, 395] (by decide +kernel) (by decide +kernel)) (goodIn_sub (fun _ h => List.mem_cons_of_mem _ (List.mem_append_right _ h)) (by decide +kernel))
set_option maxRecDepth 20000 in
theorem gX10_readsText_X10_readsEvent : GoodIn wsX10_readsText (wsV RX10 245 RX10 yX10_readsEvent wsX10_readsEvent) := goodIn_app (goodIn_of _ (by decide +kernel)) ggX10_readsText_X10_readsEvent
set_option maxRecDepth 20000 in
theorem ggX10_readsText_X10_begins : GoodIn wsX10_readsText wsX10_begins := goodIn_ca (goodIn_r _ [213, 2, 8, 214, 215, 216, 6, 217, 1, 218, 219, 220, 221, 222, 223, 224, 225, 226, 227, 228, 229, 19, 20, 21, 230, 231, 232, 233, 234, 235, 236, 237, 238, 239, 240, 241, 242, 243, 244, 245, 178, 179, 180, 181, 370, 371, 372, 373, 374, 375, 376, 377, 378, 379, 380, 381, 382, 383, 384, 385, 386, 387, 388, 389, 390, 391] (by decide +kernel) (by decide +kernel)) (goodIn_sub (fun _ h => List.mem_cons_of_mem _ (List.mem_append_right _ h)) (by decide +kernel))
set_option maxRecDepth 20000 in
theorem gX10_readsText_X10_begins : GoodIn wsX10_readsText (wsV RX10 289 RX10 yX10_begins wsX10_begins) := goodIn_app (goodIn_of _ (by decide +kernel)) ggX10_readsText_X10_begins
theorem dX10_readsText_0 : decode cX10_readsText 0 = .ok (.aload_n 0, 1) := by decide +kernel
theorem dX10_readsText_1 : decode cX10_readsText 1 = .ok (.invokevirtual 112, 3) := by decide +kernel
theorem dX10_readsText_4 : decode cX10_readsText 4 = .ok (.aload_n 0, 1) := by decide +kernel
theorem dX10_readsText_5 : decode cX10_readsText 5 = .ok (.ldc_w 310, 3) := by decide +kernel
theorem dX10_readsText_8 : decode cX10_readsText 8 = .ok (.invokevirtual 120, 3) := by decide +kernel
theorem dX10_readsText_11 : decode cX10_readsText 11 = .ok (.ifCond .ne 8, 3) := by decide +kernel
theorem dX10_readsText_14 : decode cX10_readsText 14 = .ok (.aload_n 0, 1) := by decide +kernel
theorem dX10_readsText_15 : decode cX10_readsText 15 = .ok (.iconst 1, 1) := by decide +kernel
theorem dX10_readsText_16 : decode cX10_readsText 16 = .ok (.invokevirtual 105, 3) := by decide +kernel
theorem dX10_readsText_19 : decode cX10_readsText 19 = .ok (.aload_n 0, 1) := by decide +kernel
theorem dX10_readsText_20 : decode cX10_readsText 20 = .ok (.invokevirtual 112, 3) := by decide +kernel
theorem dX10_readsText_23 : decode cX10_readsText 23 = .ok (.aload_n 0, 1) := by decide +kernel
theorem dX10_readsText_24 : decode cX10_readsText 24 = .ok (.getfield 9, 3) := by decide +kernel
theorem dX10_readsText_27 : decode cX10_readsText 27 = .ok (.iconst 0, 1) := by decide +kernel
theorem dX10_readsText_28 : decode cX10_readsText 28 = .ok (.aload_n 0, 1) := by decide +kernel
theorem dX10_readsText_29 : decode cX10_readsText 29 = .ok (.iconst 2, 1) := by decide +kernel
theorem dX10_readsText_30 : decode cX10_readsText 30 = .ok (.bipush 8, 2) := by decide +kernel
theorem dX10_readsText_32 : decode cX10_readsText 32 = .ok (.invokevirtual 115, 3) := by decide +kernel
theorem dX10_readsText_35 : decode cX10_readsText 35 = .ok (.iastore, 1) := by decide +kernel
theorem dX10_readsText_36 : decode cX10_readsText 36 = .ok (.aload_n 0, 1) := by decide +kernel
theorem dX10_readsText_37 : decode cX10_readsText 37 = .ok (.getfield 9, 3) := by decide +kernel
theorem dX10_readsText_40 : decode cX10_readsText 40 = .ok (.iconst 1, 1) := by decide +kernel
theorem dX10_readsText_41 : decode cX10_readsText 41 = .ok (.aload_n 0, 1) := by decide +kernel
theorem dX10_readsText_42 : decode cX10_readsText 42 = .ok (.iconst 2, 1) := by decide +kernel
theorem dX10_readsText_43 : decode cX10_readsText 43 = .ok (.bipush 10, 2) := by decide +kernel
theorem dX10_readsText_45 : decode cX10_readsText 45 = .ok (.invokevirtual 115, 3) := by decide +kernel
theorem dX10_readsText_48 : decode cX10_readsText 48 = .ok (.iastore, 1) := by decide +kernel
theorem dX10_readsText_49 : decode cX10_readsText 49 = .ok (.aload_n 0, 1) := by decide +kernel
theorem dX10_readsText_50 : decode cX10_readsText 50 = .ok (.iconst 4, 1) := by decide +kernel
theorem dX10_readsText_51 : decode cX10_readsText 51 = .ok (.invokevirtual 92, 3) := by decide +kernel
theorem dX10_readsText_54 : decode cX10_readsText 54 = .ok (.ifCond .eq 35, 3) := by decide +kernel
theorem dX10_readsText_57 : decode cX10_readsText 57 = .ok (.aload_n 0, 1) := by decide +kernel
theorem dX10_readsText_58 : decode cX10_readsText 58 = .ok (.invokevirtual 112, 3) := by decide +kernel
theorem dX10_readsText_61 : decode cX10_readsText 61 = .ok (.aload_n 0, 1) := by decide +kernel
theorem dX10_readsText_62 : decode cX10_readsText 62 = .ok (.getfield 254, 3) := by decide +kernel
theorem dX10_readsText_65 : decode cX10_readsText 65 = .ok (.ifCond .ne 17, 3) := by decide +kernel
theorem dX10_readsText_68 : decode cX10_readsText 68 = .ok (.aload_n 0, 1) := by decide +kernel
theorem dX10_readsText_69 : decode cX10_readsText 69 = .ok (.invokevirtual 312, 3) := by decide +kernel
theorem dX10_readsText_72 : decode cX10_readsText 72 = .ok (.ifCond .eq 10, 3) := by decide +kernel
theorem dX10_readsText_75 : decode cX10_readsText 75 = .ok (.aload_n 0, 1) := by decide +kernel
theorem dX10_readsText_76 : decode cX10_readsText 76 = .ok (.invokevirtual 315, 3) := by decide +kernel
theorem dX10_readsText_79 : decode cX10_readsText 79 = .ok (.goto (-30), 3) := by decide +kernel
theorem dX10_readsText_82 : decode cX10_readsText 82 = .ok (.aload_n 0, 1) := by decide +kernel
theorem dX10_readsText_83 : decode cX10_readsText 83 = .ok (.invokevirtual 245, 3) := by decide +kernel
theorem dX10_readsText_86 : decode cX10_readsText 86 = .ok (.goto (-37), 3) := by decide +kernel
theorem dX10_readsText_89 : decode cX10_readsText 89 = .ok (.aload_n 0, 1) := by decide +kernel
theorem dX10_readsText_90 : decode cX10_readsText 90 = .ok (.iconst 1, 1) := by decide +kernel
theorem dX10_readsText_91 : decode cX10_readsText 91 = .ok (.invokevirtual 92, 3) := by decide +kernel
theorem dX10_readsText_94 : decode cX10_readsText 94 = .ok (.ifCond .ne 8, 3) := by decide +kernel
theorem dX10_readsText_97 : decode cX10_readsText 97 = .ok (.aload_n 0, 1) := by decide +kernel
theorem dX10_readsText_98 : decode cX10_readsText 98 = .ok (.iconst 1, 1) := by decide +kernel
theorem dX10_readsText_99 : decode cX10_readsText 99 = .ok (.invokevirtual 105, 3) := by decide +kernel
theorem dX10_readsText_102 : decode cX10_readsText 102 = .ok (.aload_n 0, 1) := by decide +kernel
theorem dX10_readsText_103 : decode cX10_readsText 103 = .ok (.invokevirtual 289, 3) := by decide +kernel
theorem dX10_readsText_106 : decode cX10_readsText 106 = .ok (.return_, 1) := by decide +kernel
theorem dX10_starts_0 : decode cX10_starts 0 = .ok (.iconst 0, 1) := by decide +kernel
theorem dX10_starts_1 : decode cX10_starts 1 = .ok (.istore_n 1, 1) := by decide +kernel
theorem dX10_starts_2 : decode cX10_starts 2 = .ok (.iload_n 1, 1) := by decide +kernel
theorem dX10_starts_3 : decode cX10_starts 3 = .ok (.sipush 424, 3) := by decide +kernel
theorem dX10_starts_6 : decode cX10_starts 6 = .ok (.if_icmp .ge 16, 3) := by decide +kernel
theorem dX10_starts_9 : decode cX10_starts 9 = .ok (.aload_n 0, 1) := by decide +kernel
theorem dX10_starts_10 : decode cX10_starts 10 = .ok (.getfield 9, 3) := by decide +kernel
theorem dX10_starts_13 : decode cX10_starts 13 = .ok (.iload_n 1, 1) := by decide +kernel
theorem dX10_starts_14 : decode cX10_starts 14 = .ok (.iconst 0, 1) := by decide +kernel
theorem dX10_starts_15 : decode cX10_starts 15 = .ok (.iastore, 1) := by decide +kernel
theorem dX10_starts_16 : decode cX10_starts 16 = .ok (.iinc 1 1, 3) := by decide +kernel
theorem dX10_starts_19 : decode cX10_starts 19 = .ok (.goto (-17), 3) := by decide +kernel
theorem dX10_starts_22 : decode cX10_starts 22 = .ok (.aload_n 0, 1) := by decide +kernel
theorem dX10_starts_23 : decode cX10_starts 23 = .ok (.getfield 9, 3) := by decide +kernel
theorem dX10_starts_26 : decode cX10_starts 26 = .ok (.iconst 2, 1) := by decide +kernel
theorem dX10_starts_27 : decode cX10_starts 27 = .ok (.iconst 5, 1) := by decide +kernel
theorem dX10_starts_28 : decode cX10_starts 28 = .ok (.iastore, 1) := by decide +kernel
theorem dX10_starts_29 : decode cX10_starts 29 = .ok (.aload_n 0, 1) := by decide +kernel
theorem dX10_starts_30 : decode cX10_starts 30 = .ok (.getfield 9, 3) := by decide +kernel
theorem dX10_starts_33 : decode cX10_starts 33 = .ok (.iconst 3, 1) := by decide +kernel
theorem dX10_starts_34 : decode cX10_starts 34 = .ok (.iconst 1, 1) := by decide +kernel
theorem dX10_starts_35 : decode cX10_starts 35 = .ok (.iastore, 1) := by decide +kernel
theorem dX10_starts_36 : decode cX10_starts 36 = .ok (.aload_n 0, 1) := by decide +kernel
theorem dX10_starts_37 : decode cX10_starts 37 = .ok (.getfield 9, 3) := by decide +kernel
theorem dX10_starts_40 : decode cX10_starts 40 = .ok (.iconst 4, 1) := by decide +kernel
theorem dX10_starts_41 : decode cX10_starts 41 = .ok (.bipush 10, 2) := by decide +kernel
theorem dX10_starts_43 : decode cX10_starts 43 = .ok (.iastore, 1) := by decide +kernel
theorem dX10_starts_44 : decode cX10_starts 44 = .ok (.aload_n 0, 1) := by decide +kernel
theorem dX10_starts_45 : decode cX10_starts 45 = .ok (.getfield 9, 3) := by decide +kernel
theorem dX10_starts_48 : decode cX10_starts 48 = .ok (.bipush 6, 2) := by decide +kernel
theorem dX10_starts_50 : decode cX10_starts 50 = .ok (.bipush 15, 2) := by decide +kernel
theorem dX10_starts_52 : decode cX10_starts 52 = .ok (.iastore, 1) := by decide +kernel
theorem dX10_starts_53 : decode cX10_starts 53 = .ok (.aload_n 0, 1) := by decide +kernel
theorem dX10_starts_54 : decode cX10_starts 54 = .ok (.getfield 9, 3) := by decide +kernel
theorem dX10_starts_57 : decode cX10_starts 57 = .ok (.bipush 8, 2) := by decide +kernel
theorem dX10_starts_59 : decode cX10_starts 59 = .ok (.iconst (-1), 1) := by decide +kernel
theorem dX10_starts_60 : decode cX10_starts 60 = .ok (.iastore, 1) := by decide +kernel
theorem dX10_starts_61 : decode cX10_starts 61 = .ok (.aload_n 0, 1) := by decide +kernel
theorem dX10_starts_62 : decode cX10_starts 62 = .ok (.getfield 9, 3) := by decide +kernel
theorem dX10_starts_65 : decode cX10_starts 65 = .ok (.bipush 10, 2) := by decide +kernel
theorem dX10_starts_67 : decode cX10_starts 67 = .ok (.iconst 1, 1) := by decide +kernel
theorem dX10_starts_68 : decode cX10_starts 68 = .ok (.iastore, 1) := by decide +kernel
theorem dX10_starts_69 : decode cX10_starts 69 = .ok (.aload_n 0, 1) := by decide +kernel
theorem dX10_starts_70 : decode cX10_starts 70 = .ok (.getfield 9, 3) := by decide +kernel
theorem dX10_starts_73 : decode cX10_starts 73 = .ok (.bipush 16, 2) := by decide +kernel
theorem dX10_starts_75 : decode cX10_starts 75 = .ok (.iconst (-1), 1) := by decide +kernel
theorem dX10_starts_76 : decode cX10_starts 76 = .ok (.iastore, 1) := by decide +kernel
theorem dX10_starts_77 : decode cX10_starts 77 = .ok (.return_, 1) := by decide +kernel
set_option maxRecDepth 20000 in
theorem ggX10_parseSetup_X10_in : GoodIn wsX10_parseSetup wsX10_in := goodIn_r _ [16] (by decide +kernel) (by decide +kernel)
set_option maxRecDepth 20000 in
theorem gX10_parseSetup_X10_in : GoodIn wsX10_parseSetup (va_wsS RX10 65 yX10_in wsX10_in) := goodIn_app (goodIn_of _ (by decide +kernel)) ggX10_parseSetup_X10_in
set_option maxRecDepth 20000 in
theorem ggX10_parseSetup_X10_may : GoodIn wsX10_parseSetup wsX10_may := goodIn_r _ [20, 9, 399, 400, 401, 402, 403, 404, 405, 406, 407, 408, 409, 410, 411, 412, 413, 414, 415, 416, 417, 418, 419, 420] (by decide +kernel) (by decide +kernel)
set_option maxRecDepth 20000 in
theorem gX10_parseSetup_X10_may : GoodIn wsX10_parseSetup (wsV RX10 40 RX10 yX10_may wsX10_may) := goodIn_app (goodIn_of _ (by decide +kernel)) ggX10_parseSetup_X10_may
set_option maxRecDepth 20000 in
theorem ggX10_parseSetup_X10_thinks : GoodIn wsX10_parseSetup wsX10_thinks := goodIn_ca (goodIn_r _ [24, 25, 26, 27, 28, 15, 29, 399, 400, 401, 402, 403, 404, 405, 406, 407, 408, 409, 410, 411, 412, 413, 414, 415, 416, 417, 418, 419, 420] (by decide +kernel) (by decide +kernel)) (goodIn_sub (fun _ h => List.mem_cons_of_mem _ (List.mem_append_right _ h)) (by decide +kernel))
set_option maxRecDepth 20000 in
theorem gX10_parseSetup_X10_thinks : GoodIn wsX10_parseSetup (wsV RX10 318 RX10 yX10_thinks wsX10_thinks) := goodIn_app (goodIn_of _ (by decide +kernel)) ggX10_parseSetup_X10_thinks
set_option maxRecDepth 20000 in
theorem ggX10_parseSetup_X10_starts : GoodIn wsX10_parseSetup wsX10_starts := goodIn_ca (goodIn_r _ [33, 25, 399, 400, 401, 402, 403, 404, 405, 406, 407, 408, 409, 410, 411, 412, 413, 414, 415, 416, 417, 418, 419, 420] (by decide +kernel) (by decide +kernel)) (goodIn_sub (fun _ h => List.mem_cons_of_mem _ (List.mem_append_right _ h)) (by decide +kernel))
set_option maxRecDepth 20000 in
theorem gX10_parseSetup_X10_starts : GoodIn wsX10_parseSetup (wsV RX10 321 RX10 yX10_starts wsX10_starts) := goodIn_app (goodIn_of _ (by decide +kernel)) ggX10_parseSetup_X10_starts
set_option maxRecDepth 20000 in
theorem ggX10_parseSetup_X10_readsText : GoodIn wsX10_parseSetup wsX10_readsText := goodIn_ca (goodIn_r _ [37, 25, 6, 38, 39, 40, 15, 41, 4, 3, 2, 42, 43, 44, 45, 46, 47, 48, 49, 13, 14, 16, 50, 51, 52, 53, 54, 55, 56, 57, 58, 59, 60, 61, 62, 63, 64, 65, 66, 67, 68, 69, 70, 71, 72, 73, 74, 75, 76, 77, 78, 79, 80, 81, 82, 83, 84, 85, 86, 87, 88, 89, 90, 91, 92, 93, 94, 95, 96, 97, 98, 99, 100, 101, 102, 103, 104, 105, 106, 107, 108, 109, 110, 111, 112, 113, 114, 115, 116, 117, 5, 118, 119, 120, 121, 122, 123, 124, 125, 126, 127, 128, 129, 130, 131, 132, 133, 134, 135, 136, 137, 138, 139, 140, 141, 142, 143, 144, 145, 146, 147, 148, 149, 150, 151, 152, 153, 154, 155, 156, 157, 158, 159, 160, 161, 162, 163, 164, 165, 166, 167, 168, 169, 170, 171, 172, 173, 174, 175, 176, 177, 178, 179, 180, 181, 182, 183, 184, 185, 186, 187, 188, 189, 190, 191, 192, 193, 194, 195, 196, 197, 198, 199, 200, 201, 202, 203, 204, 205, 206, 207, 208, 209, 210, 211, 212, 213, 214, 215, 216, 217, 218, 219, 220, 221, 222, 223, 224, 225, 226, 227, 228, 229, 230, 231, 232, 233, 234, 235, 236, 237, 238, 239, 240, 241, 242, 243, 244, 245, 246, 247, 248, 249, 250, 251, 252, 253, 254, 255, 256, 257, 258, 259, 260, 261, 262, 263, 264, 265, 266, 267, 268, 269, 270, 271, 272, 273, 274, 275, 276, 277, 278, 279, 280, 281, 282, 283, 284, 285, 286, 287, 288, 289, 290, 291, 292, 293, 294, 295, 296, 8, 297, 298, 299, 300, 301, 302, 303, 304, 305, 306, 307, 308, 309, 310, 311, 312, 313, 314, 315, 316, 317, 318, 319, 320, 321, 322, 323, 324, 325, 326, 327, 328, 329, 330, 331, 332, 333, 334, 335, 336, 337, 338, 339, 340, 341, 342, 343, 344, 345, 346, 347, 348, 349, 350, 351, 352, 353, 354, 355, 356, 357, 358, 359, 360, 361, 362, 363, 364, 365, 366, 367, 368, 369, 370, 371, 372, 373, 374, 375, 376, 377, 378, 379, 380, 381, 382, 383, 384, 385, 386, 387, 388, 389, 390, 391, 7, 392, 393, 394, 399, 400, 401, 402, 403, 404, 405, 406, 407, 408, 409, 410, 411, 412, 413, 414, 415, 416, 417, 418, 419, 420, 421, 422, 423, 424] (by decide +kernel) (by decide +kernel)) (goodIn_sub (fun _ h => List.mem_cons_of_mem _ (List.mem_append_right _ h)) (by decide +kernel))
set_option maxRecDepth 20000 in
theorem gX10_parseSetup_X10_readsText : GoodIn wsX10_parseSetup (wsV RX10 324 RX10 yX10_readsText wsX10_readsText) := goodIn_app (goodIn_of _ (by decide +kernel)) ggX10_parseSetup_X10_readsText
set_option maxRecDepth 20000 in
theorem ggX10_parseSetup_X10_back : GoodIn wsX10_parseSetup wsX10_back := goodIn_ca (goodIn_r _ [398, 26, 25, 27, 28, 15, 29, 399, 400, 401, 402, 403, 404, 405, 406, 407, 408, 409, 410, 411, 412, 413, 414, 415, 416, 417, 418, 419, 420] (by decide +kernel) (by decide +kernel)) (goodIn_sub (fun _ h => List.mem_cons_of_mem _ (List.mem_append_right _ h)) (by decide +kernel))
set_option maxRecDepth 20000 in
theorem gX10_parseSetup_X10_back : GoodIn wsX10_parseSetup (wsV RX10 327 RX10 yX10_back wsX10_back) := goodIn_app (goodIn_of _ (by decide +kernel)) ggX10_parseSetup_X10_back
set_option maxRecDepth 20000 in
theorem ggX10_parseSetup_X10_tiles : GoodIn wsX10_parseSetup wsX10_tiles := goodIn_ca (goodIn_r _ [160, 25, 399, 400, 401, 402, 403, 404, 405, 406, 407, 408, 409, 410, 411, 412, 413, 414, 415, 416, 417, 418, 419, 420] (by decide +kernel) (by decide +kernel)) (goodIn_sub (fun _ h => List.mem_cons_of_mem _ (List.mem_append_right _ h)) (by decide +kernel))
set_option maxRecDepth 20000 in
theorem gX10_parseSetup_X10_tiles : GoodIn wsX10_parseSetup (wsV RX10 136 RX10 yX10_tiles wsX10_tiles) := goodIn_app (goodIn_of _ (by decide +kernel)) ggX10_parseSetup_X10_tiles
theorem dX10_parseSetup_0 : decode cX10_parseSetup 0 = .ok (.aload_n 0, 1) := by decide +kernel
theorem dX10_parseSetup_1 : decode cX10_parseSetup 1 = .ok (.iload_n 1, 1) := by decide +kernel
theorem dX10_parseSetup_2 : decode cX10_parseSetup 2 = .ok (.iconst 0, 1) := by decide +kernel
theorem dX10_parseSetup_3 : decode cX10_parseSetup 3 = .ok (.aload_n 0, 1) := by decide +kernel
theorem dX10_parseSetup_4 : decode cX10_parseSetup 4 = .ok (.getfield 52, 3) := by decide +kernel
theorem dX10_parseSetup_7 : decode cX10_parseSetup 7 = .ok (.invokestatic 65, 3) := by decide +kernel
theorem dX10_parseSetup_10 : decode cX10_parseSetup 10 = .ok (.iconst 1, 1) := by decide +kernel
theorem dX10_parseSetup_11 : decode cX10_parseSetup 11 = .ok (.iconst 1, 1) := by decide +kernel
theorem dX10_parseSetup_12 : decode cX10_parseSetup 12 = .ok (.invokevirtual 40, 3) := by decide +kernel
theorem dX10_parseSetup_15 : decode cX10_parseSetup 15 = .ok (.ifCond .ne 5, 3) := by decide +kernel
theorem dX10_parseSetup_18 : decode cX10_parseSetup 18 = .ok (.iconst 0, 1) := by decide +kernel
theorem dX10_parseSetup_19 : decode cX10_parseSetup 19 = .ok (.ireturn, 1) := by decide +kernel
theorem dX10_parseSetup_20 : decode cX10_parseSetup 20 = .ok (.aload_n 0, 1) := by decide +kernel
theorem dX10_parseSetup_21 : decode cX10_parseSetup 21 = .ok (.iload_n 1, 1) := by decide +kernel
theorem dX10_parseSetup_22 : decode cX10_parseSetup 22 = .ok (.putfield 62, 3) := by decide +kernel
theorem dX10_parseSetup_25 : decode cX10_parseSetup 25 = .ok (.aload_n 0, 1) := by decide +kernel
theorem dX10_parseSetup_26 : decode cX10_parseSetup 26 = .ok (.iconst 0, 1) := by decide +kernel
theorem dX10_parseSetup_27 : decode cX10_parseSetup 27 = .ok (.putfield 69, 3) := by decide +kernel
theorem dX10_parseSetup_30 : decode cX10_parseSetup 30 = .ok (.aload_n 0, 1) := by decide +kernel
theorem dX10_parseSetup_31 : decode cX10_parseSetup 31 = .ok (.iconst 0, 1) := by decide +kernel
theorem dX10_parseSetup_32 : decode cX10_parseSetup 32 = .ok (.putfield 52, 3) := by decide +kernel
theorem dX10_parseSetup_35 : decode cX10_parseSetup 35 = .ok (.aload_n 0, 1) := by decide +kernel
theorem dX10_parseSetup_36 : decode cX10_parseSetup 36 = .ok (.iconst 0, 1) := by decide +kernel
theorem dX10_parseSetup_37 : decode cX10_parseSetup 37 = .ok (.putfield 59, 3) := by decide +kernel
theorem dX10_parseSetup_40 : decode cX10_parseSetup 40 = .ok (.aload_n 0, 1) := by decide +kernel
theorem dX10_parseSetup_41 : decode cX10_parseSetup 41 = .ok (.iconst (-1), 1) := by decide +kernel
theorem dX10_parseSetup_42 : decode cX10_parseSetup 42 = .ok (.putfield 30, 3) := by decide +kernel
theorem dX10_parseSetup_45 : decode cX10_parseSetup 45 = .ok (.aload_n 0, 1) := by decide +kernel
theorem dX10_parseSetup_46 : decode cX10_parseSetup 46 = .ok (.iconst 0, 1) := by decide +kernel
theorem dX10_parseSetup_47 : decode cX10_parseSetup 47 = .ok (.putfield 254, 3) := by decide +kernel
theorem dX10_parseSetup_50 : decode cX10_parseSetup 50 = .ok (.aload_n 0, 1) := by decide +kernel
theorem dX10_parseSetup_51 : decode cX10_parseSetup 51 = .ok (.iconst 0, 1) := by decide +kernel
theorem dX10_parseSetup_52 : decode cX10_parseSetup 52 = .ok (.putfield 248, 3) := by decide +kernel
theorem dX10_parseSetup_55 : decode cX10_parseSetup 55 = .ok (.aload_n 0, 1) := by decide +kernel
theorem dX10_parseSetup_56 : decode cX10_parseSetup 56 = .ok (.iconst 0, 1) := by decide +kernel
theorem dX10_parseSetup_57 : decode cX10_parseSetup 57 = .ok (.putfield 236, 3) := by decide +kernel
theorem dX10_parseSetup_60 : decode cX10_parseSetup 60 = .ok (.aload_n 0, 1) := by decide +kernel
theorem dX10_parseSetup_61 : decode cX10_parseSetup 61 = .ok (.invokevirtual 318, 3) := by decide +kernel
theorem dX10_parseSetup_64 : decode cX10_parseSetup 64 = .ok (.aload_n 0, 1) := by decide +kernel
theorem dX10_parseSetup_65 : decode cX10_parseSetup 65 = .ok (.invokevirtual 321, 3) := by decide +kernel
theorem dX10_parseSetup_68 : decode cX10_parseSetup 68 = .ok (.aload_n 0, 1) := by decide +kernel
theorem dX10_parseSetup_69 : decode cX10_parseSetup 69 = .ok (.invokevirtual 324, 3) := by decide +kernel
theorem dX10_parseSetup_72 : decode cX10_parseSetup 72 = .ok (.aload_n 0, 1) := by decide +kernel
theorem dX10_parseSetup_73 : decode cX10_parseSetup 73 = .ok (.getfield 59, 3) := by decide +kernel
theorem dX10_parseSetup_76 : decode cX10_parseSetup 76 = .ok (.ifCond .le 14, 3) := by decide +kernel
theorem dX10_parseSetup_79 : decode cX10_parseSetup 79 = .ok (.aload_n 0, 1) := by decide +kernel
theorem dX10_parseSetup_80 : decode cX10_parseSetup 80 = .ok (.iconst 2, 1) := by decide +kernel
theorem dX10_parseSetup_81 : decode cX10_parseSetup 81 = .ok (.putfield 37, 3) := by decide +kernel
theorem dX10_parseSetup_84 : decode cX10_parseSetup 84 = .ok (.aload_n 0, 1) := by decide +kernel
theorem dX10_parseSetup_85 : decode cX10_parseSetup 85 = .ok (.iconst 0, 1) := by decide +kernel
theorem dX10_parseSetup_86 : decode cX10_parseSetup 86 = .ok (.invokevirtual 327, 3) := by decide +kernel
theorem dX10_parseSetup_89 : decode cX10_parseSetup 89 = .ok (.ireturn, 1) := by decide +kernel
theorem dX10_parseSetup_90 : decode cX10_parseSetup 90 = .ok (.aload_n 0, 1) := by decide +kernel
theorem dX10_parseSetup_91 : decode cX10_parseSetup 91 = .ok (.iconst 1, 1) := by decide +kernel
theorem dX10_parseSetup_92 : decode cX10_parseSetup 92 = .ok (.putfield 44, 3) := by decide +kernel
theorem dX10_parseSetup_95 : decode cX10_parseSetup 95 = .ok (.aload_n 0, 1) := by decide +kernel
theorem dX10_parseSetup_96 : decode cX10_parseSetup 96 = .ok (.iconst 0, 1) := by decide +kernel
theorem dX10_parseSetup_97 : decode cX10_parseSetup 97 = .ok (.putfield 330, 3) := by decide +kernel
theorem dX10_parseSetup_100 : decode cX10_parseSetup 100 = .ok (.aload_n 0, 1) := by decide +kernel
theorem dX10_parseSetup_101 : decode cX10_parseSetup 101 = .ok (.getfield 22, 3) := by decide +kernel
theorem dX10_parseSetup_104 : decode cX10_parseSetup 104 = .ok (.iconst 0, 1) := by decide +kernel
theorem dX10_parseSetup_105 : decode cX10_parseSetup 105 = .ok (.iconst 0, 1) := by decide +kernel
theorem dX10_parseSetup_106 : decode cX10_parseSetup 106 = .ok (.bastore, 1) := by decide +kernel
theorem dX10_parseSetup_107 : decode cX10_parseSetup 107 = .ok (.aload_n 0, 1) := by decide +kernel
theorem dX10_parseSetup_108 : decode cX10_parseSetup 108 = .ok (.getfield 22, 3) := by decide +kernel
theorem dX10_parseSetup_111 : decode cX10_parseSetup 111 = .ok (.iconst 1, 1) := by decide +kernel
theorem dX10_parseSetup_112 : decode cX10_parseSetup 112 = .ok (.iconst 0, 1) := by decide +kernel
theorem dX10_parseSetup_113 : decode cX10_parseSetup 113 = .ok (.bastore, 1) := by decide +kernel
theorem dX10_parseSetup_114 : decode cX10_parseSetup 114 = .ok (.aload_n 0, 1) := by decide +kernel
theorem dX10_parseSetup_115 : decode cX10_parseSetup 115 = .ok (.invokevirtual 136, 3) := by decide +kernel
theorem dX10_parseSetup_118 : decode cX10_parseSetup 118 = .ok (.ireturn, 1) := by decide +kernel
theorem dX10_tiles_0 : decode cX10_tiles 0 = .ok (.aload_n 0, 1) := by decide +kernel
theorem dX10_tiles_1 : decode cX10_tiles 1 = .ok (.getfield 9, 3) := by decide +kernel
theorem dX10_tiles_4 : decode cX10_tiles 4 = .ok (.iconst 0, 1) := by decide +kernel
theorem dX10_tiles_5 : decode cX10_tiles 5 = .ok (.iaload, 1) := by decide +kernel
theorem dX10_tiles_6 : decode cX10_tiles 6 = .ok (.aload_n 0, 1) := by decide +kernel
theorem dX10_tiles_7 : decode cX10_tiles 7 = .ok (.getfield 9, 3) := by decide +kernel
theorem dX10_tiles_10 : decode cX10_tiles 10 = .ok (.iconst 1, 1) := by decide +kernel
theorem dX10_tiles_11 : decode cX10_tiles 11 = .ok (.iaload, 1) := by decide +kernel
theorem dX10_tiles_12 : decode cX10_tiles 12 = .ok (.imul, 1) := by decide +kernel
theorem dX10_tiles_13 : decode cX10_tiles 13 = .ok (.ireturn, 1) := by decide +kernel
theorem dX10_isClosed_0 : decode cX10_isClosed 0 = .ok (.aload_n 0, 1) := by decide +kernel
theorem dX10_isClosed_1 : decode cX10_isClosed 1 = .ok (.getfield 9, 3) := by decide +kernel
theorem dX10_isClosed_4 : decode cX10_isClosed 4 = .ok (.bipush 26, 2) := by decide +kernel
theorem dX10_isClosed_6 : decode cX10_isClosed 6 = .ok (.iload_n 1, 1) := by decide +kernel
theorem dX10_isClosed_7 : decode cX10_isClosed 7 = .ok (.iadd, 1) := by decide +kernel
theorem dX10_isClosed_8 : decode cX10_isClosed 8 = .ok (.iaload, 1) := by decide +kernel
theorem dX10_isClosed_9 : decode cX10_isClosed 9 = .ok (.iconst 1, 1) := by decide +kernel
theorem dX10_isClosed_10 : decode cX10_isClosed 10 = .ok (.if_icmp .ne 7, 3) := by decide +kernel
theorem dX10_isClosed_13 : decode cX10_isClosed 13 = .ok (.iconst 1, 1) := by decide +kernel
theorem dX10_isClosed_14 : decode cX10_isClosed 14 = .ok (.goto 4, 3) := by decide +kernel
theorem dX10_isClosed_17 : decode cX10_isClosed 17 = .ok (.iconst 0, 1) := by decide +kernel
theorem dX10_isClosed_18 : decode cX10_isClosed 18 = .ok (.ireturn, 1) := by decide +kernel
theorem dX10_isEmpty_0 : decode cX10_isEmpty 0 = .ok (.aload_n 0, 1) := by decide +kernel
theorem dX10_isEmpty_1 : decode cX10_isEmpty 1 = .ok (.getfield 9, 3) := by decide +kernel
theorem dX10_isEmpty_4 : decode cX10_isEmpty 4 = .ok (.bipush 84, 2) := by decide +kernel
theorem dX10_isEmpty_6 : decode cX10_isEmpty 6 = .ok (.iload_n 1, 1) := by decide +kernel
theorem dX10_isEmpty_7 : decode cX10_isEmpty 7 = .ok (.iadd, 1) := by decide +kernel
theorem dX10_isEmpty_8 : decode cX10_isEmpty 8 = .ok (.iaload, 1) := by decide +kernel
theorem dX10_isEmpty_9 : decode cX10_isEmpty 9 = .ok (.ifCond .ne 20, 3) := by decide +kernel
theorem dX10_isEmpty_12 : decode cX10_isEmpty 12 = .ok (.aload_n 0, 1) := by decide +kernel
theorem dX10_isEmpty_13 : decode cX10_isEmpty 13 = .ok (.getfield 9, 3) := by decide +kernel
theorem dX10_isEmpty_16 : decode cX10_isEmpty 16 = .ok (.sipush 244, 3) := by decide +kernel
theorem dX10_isEmpty_19 : decode cX10_isEmpty 19 = .ok (.iload_n 1, 1) := by decide +kernel
theorem dX10_isEmpty_20 : decode cX10_isEmpty 20 = .ok (.iadd, 1) := by decide +kernel
theorem dX10_isEmpty_21 : decode cX10_isEmpty 21 = .ok (.iaload, 1) := by decide +kernel
theorem dX10_isEmpty_22 : decode cX10_isEmpty 22 = .ok (.ifCond .ne 7, 3) := by decide +kernel
theorem dX10_isEmpty_25 : decode cX10_isEmpty 25 = .ok (.iconst 1, 1) := by decide +kernel
theorem dX10_isEmpty_26 : decode cX10_isEmpty 26 = .ok (.goto 4, 3) := by decide +kernel
theorem dX10_isEmpty_29 : decode cX10_isEmpty 29 = .ok (.iconst 0, 1) := by decide +kernel
theorem dX10_isEmpty_30 : decode cX10_isEmpty 30 = .ok (.ireturn, 1) := by decide +kernel
theorem dX10_shine_0 : decode cX10_shine 0 = .ok (.aload_n 0, 1) := by decide +kernel
theorem dX10_shine_1 : decode cX10_shine 1 = .ok (.getfield 9, 3) := by decide +kernel
theorem dX10_shine_4 : decode cX10_shine 4 = .ok (.bipush 6, 2) := by decide +kernel
theorem dX10_shine_6 : decode cX10_shine 6 = .ok (.iaload, 1) := by decide +kernel
theorem dX10_shine_7 : decode cX10_shine 7 = .ok (.bipush 30, 2) := by decide +kernel
theorem dX10_shine_9 : decode cX10_shine 9 = .ok (.irem, 1) := by decide +kernel
theorem dX10_shine_10 : decode cX10_shine 10 = .ok (.istore_n 1, 1) := by decide +kernel
theorem dX10_shine_11 : decode cX10_shine 11 = .ok (.iload_n 1, 1) := by decide +kernel
theorem dX10_shine_12 : decode cX10_shine 12 = .ok (.bipush 15, 2) := by decide +kernel
theorem dX10_shine_14 : decode cX10_shine 14 = .ok (.if_icmp .gt 7, 3) := by decide +kernel
theorem dX10_shine_17 : decode cX10_shine 17 = .ok (.iload_n 1, 1) := by decide +kernel
theorem dX10_shine_18 : decode cX10_shine 18 = .ok (.goto 7, 3) := by decide +kernel
theorem dX10_shine_21 : decode cX10_shine 21 = .ok (.bipush 30, 2) := by decide +kernel
theorem dX10_shine_23 : decode cX10_shine 23 = .ok (.iload_n 1, 1) := by decide +kernel
theorem dX10_shine_24 : decode cX10_shine 24 = .ok (.isub, 1) := by decide +kernel
theorem dX10_shine_25 : decode cX10_shine 25 = .ok (.ireturn, 1) := by decide +kernel
set_option maxRecDepth 20000 in
theorem ggX10_isCloudy_X10_in : GoodIn wsX10_isCloudy wsX10_in := goodIn_r _ [5] (by decide +kernel) (by decide +kernel)
set_option maxRecDepth 20000 in
theorem gX10_isCloudy_X10_in : GoodIn wsX10_isCloudy (va_wsS RX10 65 yX10_in wsX10_in) := goodIn_app (goodIn_of _ (by decide +kernel)) ggX10_isCloudy_X10_in
theorem dX10_isCloudy_0 : decode cX10_isCloudy 0 = .ok (.iconst 0, 1) := by decide +kernel
theorem dX10_isCloudy_1 : decode cX10_isCloudy 1 = .ok (.istore_n 1, 1) := by decide +kernel
theorem dX10_isCloudy_2 : decode cX10_isCloudy 2 = .ok (.iload_n 1, 1) := by decide +kernel
theorem dX10_isCloudy_3 : decode cX10_isCloudy 3 = .ok (.aload_n 0, 1) := by decide +kernel
theorem dX10_isCloudy_4 : decode cX10_isCloudy 4 = .ok (.getfield 9, 3) := by decide +kernel
theorem dX10_isCloudy_7 : decode cX10_isCloudy 7 = .ok (.bipush 24, 2) := by decide +kernel
theorem dX10_isCloudy_9 : decode cX10_isCloudy 9 = .ok (.iaload, 1) := by decide +kernel
theorem dX10_isCloudy_10 : decode cX10_isCloudy 10 = .ok (.if_icmp .ge 48, 3) := by decide +kernel
theorem dX10_isCloudy_13 : decode cX10_isCloudy 13 = .ok (.aload_n 0, 1) := by decide +kernel
theorem dX10_isCloudy_14 : decode cX10_isCloudy 14 = .ok (.getfield 9, 3) := by decide +kernel
theorem dX10_isCloudy_17 : decode cX10_isCloudy 17 = .ok (.bipush 7, 2) := by decide +kernel
theorem dX10_isCloudy_19 : decode cX10_isCloudy 19 = .ok (.iaload, 1) := by decide +kernel
theorem dX10_isCloudy_20 : decode cX10_isCloudy 20 = .ok (.aload_n 0, 1) := by decide +kernel
theorem dX10_isCloudy_21 : decode cX10_isCloudy 21 = .ok (.getfield 9, 3) := by decide +kernel
theorem dX10_isCloudy_24 : decode cX10_isCloudy 24 = .ok (.bipush 46, 2) := by decide +kernel
theorem dX10_isCloudy_26 : decode cX10_isCloudy 26 = .ok (.iconst 2, 1) := by decide +kernel
theorem dX10_isCloudy_27 : decode cX10_isCloudy 27 = .ok (.iload_n 1, 1) := by decide +kernel
theorem dX10_isCloudy_28 : decode cX10_isCloudy 28 = .ok (.imul, 1) := by decide +kernel
theorem dX10_isCloudy_29 : decode cX10_isCloudy 29 = .ok (.iadd, 1) := by decide +kernel
theorem dX10_isCloudy_30 : decode cX10_isCloudy 30 = .ok (.iaload, 1) := by decide +kernel
theorem dX10_isCloudy_31 : decode cX10_isCloudy 31 = .ok (.aload_n 0, 1) := by decide +kernel
theorem dX10_isCloudy_32 : decode cX10_isCloudy 32 = .ok (.getfield 9, 3) := by decide +kernel
theorem dX10_isCloudy_35 : decode cX10_isCloudy 35 = .ok (.bipush 46, 2) := by decide +kernel
theorem dX10_isCloudy_37 : decode cX10_isCloudy 37 = .ok (.iconst 2, 1) := by decide +kernel
theorem dX10_isCloudy_38 : decode cX10_isCloudy 38 = .ok (.iload_n 1, 1) := by decide +kernel
theorem dX10_isCloudy_39 : decode cX10_isCloudy 39 = .ok (.imul, 1) := by decide +kernel
theorem dX10_isCloudy_40 : decode cX10_isCloudy 40 = .ok (.iadd, 1) := by decide +kernel
theorem dX10_isCloudy_41 : decode cX10_isCloudy 41 = .ok (.iconst 1, 1) := by decide +kernel
theorem dX10_isCloudy_42 : decode cX10_isCloudy 42 = .ok (.iadd, 1) := by decide +kernel
theorem dX10_isCloudy_43 : decode cX10_isCloudy 43 = .ok (.iaload, 1) := by decide +kernel
theorem dX10_isCloudy_44 : decode cX10_isCloudy 44 = .ok (.invokestatic 65, 3) := by decide +kernel
theorem dX10_isCloudy_47 : decode cX10_isCloudy 47 = .ok (.ifCond .eq 5, 3) := by decide +kernel
theorem dX10_isCloudy_50 : decode cX10_isCloudy 50 = .ok (.iconst 1, 1) := by decide +kernel
theorem dX10_isCloudy_51 : decode cX10_isCloudy 51 = .ok (.ireturn, 1) := by decide +kernel
theorem dX10_isCloudy_52 : decode cX10_isCloudy 52 = .ok (.iinc 1 1, 3) := by decide +kernel
theorem dX10_isCloudy_55 : decode cX10_isCloudy 55 = .ok (.goto (-53), 3) := by decide +kernel
theorem dX10_isCloudy_58 : decode cX10_isCloudy 58 = .ok (.iconst 0, 1) := by decide +kernel
theorem dX10_isCloudy_59 : decode cX10_isCloudy 59 = .ok (.ireturn, 1) := by decide +kernel
set_option maxRecDepth 20000 in
theorem ggX10_doesShine_X10_shine : GoodIn wsX10_doesShine wsX10_shine := goodIn_ca (goodIn_r _ [5, 6, 14, 15, 16, 17, 18, 19, 20, 21, 22, 23, 24, 25, 26, 27, 28, 29, 30, 31, 32, 33, 34, 35] (by decide +kernel) (by decide +kernel)) (goodIn_sub (fun _ h => List.mem_cons_of_mem _ (List.mem_append_right _ h)) (by decide +kernel))
set_option maxRecDepth 20000 in
theorem gX10_doesShine_X10_shine : GoodIn wsX10_doesShine (wsV RX10 333 RX10 yX10_shine wsX10_shine) := goodIn_app (goodIn_of _ (by decide +kernel)) ggX10_doesShine_X10_shine
set_option maxRecDepth 20000 in
theorem ggX10_doesShine_X10_isCloudy : GoodIn wsX10_doesShine wsX10_isCloudy := goodIn_ca (goodIn_r _ [10, 6, 11, 12, 4, 13, 14, 15, 16, 17, 18, 19, 20, 21, 22, 23, 24, 25, 26, 27, 28, 29, 30, 31, 32, 33, 34, 35] (by decide +kernel) (by decide +kernel)) (goodIn_sub (fun _ h => List.mem_cons_of_mem _ (List.mem_append_right _ h)) (by decide +kernel))
set_option maxRecDepth 20000 in
theorem gX10_doesShine_X10_isCloudy : GoodIn wsX10_doesShine (wsV RX10 336 RX10 yX10_isCloudy wsX10_isCloudy) := goodIn_app (goodIn_of _ (by decide +kernel)) ggX10_doesShine_X10_isCloudy
theorem dX10_doesShine_0 : decode cX10_doesShine 0 = .ok (.aload_n 0, 1) := by decide +kernel
theorem dX10_doesShine_1 : decode cX10_doesShine 1 = .ok (.invokevirtual 333, 3) := by decide +kernel
theorem dX10_doesShine_4 : decode cX10_doesShine 4 = .ok (.ifCond .le 14, 3) := by decide +kernel
theorem dX10_doesShine_7 : decode cX10_doesShine 7 = .ok (.aload_n 0, 1) := by decide +kernel
theorem dX10_doesShine_8 : decode cX10_doesShine 8 = .ok (.invokevirtual 336, 3) := by decide +kernel
theorem dX10_doesShine_11 : decode cX10_doesShine 11 = .ok (.ifCond .ne 7, 3) := by decide +kernel
theorem dX10_doesShine_14 : decode cX10_doesShine 14 = .ok (.iconst 1, 1) := by decide +kernel
theorem dX10_doesShine_15 : decode cX10_doesShine 15 = .ok (.goto 4, 3) := by decide +kernel
theorem dX10_doesShine_18 : decode cX10_doesShine 18 = .ok (.iconst 0, 1) := by decide +kernel
theorem dX10_doesShine_19 : decode cX10_doesShine 19 = .ok (.ireturn, 1) := by decide +kernel
theorem dX10_litRow_0 : decode cX10_litRow 0 = .ok (.aload_n 0, 1) := by decide +kernel
theorem dX10_litRow_1 : decode cX10_litRow 1 = .ok (.getfield 9, 3) := by decide +kernel
theorem dX10_litRow_4 : decode cX10_litRow 4 = .ok (.bipush 7, 2) := by decide +kernel
theorem dX10_litRow_6 : decode cX10_litRow 6 = .ok (.iaload, 1) := by decide +kernel
theorem dX10_litRow_7 : decode cX10_litRow 7 = .ok (.aload_n 0, 1) := by decide +kernel
theorem dX10_litRow_8 : decode cX10_litRow 8 = .ok (.getfield 9, 3) := by decide +kernel
theorem dX10_litRow_11 : decode cX10_litRow 11 = .ok (.iconst 2, 1) := by decide +kernel
theorem dX10_litRow_12 : decode cX10_litRow 12 = .ok (.iaload, 1) := by decide +kernel
theorem dX10_litRow_13 : decode cX10_litRow 13 = .ok (.idiv, 1) := by decide +kernel
theorem dX10_litRow_14 : decode cX10_litRow 14 = .ok (.ireturn, 1) := by decide +kernel
set_option maxRecDepth 20000 in
theorem ggX10_shinesOn_X10_doesShine : GoodIn wsX10_shinesOn wsX10_doesShine := goodIn_ca (goodIn_r _ [6, 7, 8, 9, 5, 10, 1, 11, 12, 13, 14, 15, 16, 17, 26, 27, 28, 29, 30, 31, 32, 33, 34, 35, 36, 37, 38, 39, 40, 41, 42, 43, 44, 45, 46, 47] (by decide +kernel) (by decide +kernel)) (goodIn_sub (fun _ h => List.mem_cons_of_mem _ (List.mem_append_right _ h)) (by decide +kernel))
set_option maxRecDepth 20000 in
theorem gX10_shinesOn_X10_doesShine : GoodIn wsX10_shinesOn (wsV RX10 339 RX10 yX10_doesShine wsX10_doesShine) := goodIn_app (goodIn_of _ (by decide +kernel)) ggX10_shinesOn_X10_doesShine
set_option maxRecDepth 20000 in
theorem ggX10_shinesOn_X10_litRow : GoodIn wsX10_shinesOn wsX10_litRow := goodIn_ca (goodIn_r _ [21, 1, 26, 27, 28, 29, 30, 31, 32, 33, 34, 35, 36, 37, 38, 39, 40, 41, 42, 43, 44, 45, 46, 47] (by decide +kernel) (by decide +kernel)) (goodIn_sub (fun _ h => List.mem_cons_of_mem _ (List.mem_append_right _ h)) (by decide +kernel))
set_option maxRecDepth 20000 in
theorem gX10_shinesOn_X10_litRow : GoodIn wsX10_shinesOn (wsV RX10 342 RX10 yX10_litRow wsX10_litRow) := goodIn_app (goodIn_of _ (by decide +kernel)) ggX10_shinesOn_X10_litRow
set_option maxRecDepth 20000 in
theorem ggX10_shinesOn_X10_isClosed : GoodIn wsX10_shinesOn wsX10_isClosed := goodIn_ca (goodIn_r _ [25, 1, 26, 27, 28, 29, 30, 31, 32, 33, 34, 35, 36, 37, 38, 39, 40, 41, 42, 43, 44, 45, 46, 47] (by decide +kernel) (by decide +kernel)) (goodIn_sub (fun _ h => List.mem_cons_of_mem _ (List.mem_append_right _ h)) (by decide +kernel))
set_option maxRecDepth 20000 in
theorem gX10_shinesOn_X10_isClosed : GoodIn wsX10_shinesOn (wsV RX10 345 RX10 yX10_isClosed wsX10_isClosed) := goodIn_app (goodIn_of _ (by decide +kernel)) ggX10_shinesOn_X10_isClosed
theorem dX10_shinesOn_0 : decode cX10_shinesOn 0 = .ok (.aload_n 0, 1) := by decide +kernel
theorem dX10_shinesOn_1 : decode cX10_shinesOn 1 = .ok (.invokevirtual 339, 3) := by decide +kernel
theorem dX10_shinesOn_4 : decode cX10_shinesOn 4 = .ok (.ifCond .eq 37, 3) := by decide +kernel
theorem dX10_shinesOn_7 : decode cX10_shinesOn 7 = .ok (.iload_n 1, 1) := by decide +kernel
theorem dX10_shinesOn_8 : decode cX10_shinesOn 8 = .ok (.aload_n 0, 1) := by decide +kernel
theorem dX10_shinesOn_9 : decode cX10_shinesOn 9 = .ok (.getfield 9, 3) := by decide +kernel
theorem dX10_shinesOn_12 : decode cX10_shinesOn 12 = .ok (.iconst 1, 1) := by decide +kernel
theorem dX10_shinesOn_13 : decode cX10_shinesOn 13 = .ok (.iaload, 1) := by decide +kernel
theorem dX10_shinesOn_14 : decode cX10_shinesOn 14 = .ok (.idiv, 1) := by decide +kernel
theorem dX10_shinesOn_15 : decode cX10_shinesOn 15 = .ok (.aload_n 0, 1) := by decide +kernel
theorem dX10_shinesOn_16 : decode cX10_shinesOn 16 = .ok (.invokevirtual 342, 3) := by decide +kernel
theorem dX10_shinesOn_19 : decode cX10_shinesOn 19 = .ok (.if_icmp .ne 22, 3) := by decide +kernel
theorem dX10_shinesOn_22 : decode cX10_shinesOn 22 = .ok (.aload_n 0, 1) := by decide +kernel
theorem dX10_shinesOn_23 : decode cX10_shinesOn 23 = .ok (.iload_n 1, 1) := by decide +kernel
theorem dX10_shinesOn_24 : decode cX10_shinesOn 24 = .ok (.aload_n 0, 1) := by decide +kernel
theorem dX10_shinesOn_25 : decode cX10_shinesOn 25 = .ok (.getfield 9, 3) := by decide +kernel
theorem dX10_shinesOn_28 : decode cX10_shinesOn 28 = .ok (.iconst 1, 1) := by decide +kernel
theorem dX10_shinesOn_29 : decode cX10_shinesOn 29 = .ok (.iaload, 1) := by decide +kernel
theorem dX10_shinesOn_30 : decode cX10_shinesOn 30 = .ok (.irem, 1) := by decide +kernel
theorem dX10_shinesOn_31 : decode cX10_shinesOn 31 = .ok (.invokevirtual 345, 3) := by decide +kernel
theorem dX10_shinesOn_34 : decode cX10_shinesOn 34 = .ok (.ifCond .ne 7, 3) := by decide +kernel
theorem dX10_shinesOn_37 : decode cX10_shinesOn 37 = .ok (.iconst 1, 1) := by decide +kernel
theorem dX10_shinesOn_38 : decode cX10_shinesOn 38 = .ok (.goto 4, 3) := by decide +kernel
theorem dX10_shinesOn_41 : decode cX10_shinesOn 41 = .ok (.iconst 0, 1) := by decide +kernel
theorem dX10_shinesOn_42 : decode cX10_shinesOn 42 = .ok (.ireturn, 1) := by decide +kernel
theorem dX10_isOver_0 : decode cX10_isOver 0 = .ok (.aload_n 0, 1) := by decide +kernel
theorem dX10_isOver_1 : decode cX10_isOver 1 = .ok (.getfield 9, 3) := by decide +kernel
theorem dX10_isOver_4 : decode cX10_isOver 4 = .ok (.bipush 7, 2) := by decide +kernel
theorem dX10_isOver_6 : decode cX10_isOver 6 = .ok (.iaload, 1) := by decide +kernel
theorem dX10_isOver_7 : decode cX10_isOver 7 = .ok (.aload_n 0, 1) := by decide +kernel
theorem dX10_isOver_8 : decode cX10_isOver 8 = .ok (.getfield 9, 3) := by decide +kernel
theorem dX10_isOver_11 : decode cX10_isOver 11 = .ok (.iconst 0, 1) := by decide +kernel
theorem dX10_isOver_12 : decode cX10_isOver 12 = .ok (.iaload, 1) := by decide +kernel
theorem dX10_isOver_13 : decode cX10_isOver 13 = .ok (.aload_n 0, 1) := by decide +kernel
theorem dX10_isOver_14 : decode cX10_isOver 14 = .ok (.getfield 9, 3) := by decide +kernel
theorem dX10_isOver_17 : decode cX10_isOver 17 = .ok (.iconst 2, 1) := by decide +kernel
theorem dX10_isOver_18 : decode cX10_isOver 18 = .ok (.iaload, 1) := by decide +kernel
theorem dX10_isOver_19 : decode cX10_isOver 19 = .ok (.imul, 1) := by decide +kernel
theorem dX10_isOver_20 : decode cX10_isOver 20 = .ok (.if_icmp .ne 7, 3) := by decide +kernel
theorem dX10_isOver_23 : decode cX10_isOver 23 = .ok (.iconst 1, 1) := by decide +kernel
theorem dX10_isOver_24 : decode cX10_isOver 24 = .ok (.goto 4, 3) := by decide +kernel
theorem dX10_isOver_27 : decode cX10_isOver 27 = .ok (.iconst 0, 1) := by decide +kernel
theorem dX10_isOver_28 : decode cX10_isOver 28 = .ok (.ireturn, 1) := by decide +kernel
theorem dX10_isDry_0 : decode cX10_isDry 0 = .ok (.aload_n 0, 1) := by decide +kernel
theorem dX10_isDry_1 : decode cX10_isDry 1 = .ok (.getfield 9, 3) := by decide +kernel
theorem dX10_isDry_4 : decode cX10_isDry 4 = .ok (.sipush 244, 3) := by decide +kernel
theorem dX10_isDry_7 : decode cX10_isDry 7 = .ok (.iload_n 1, 1) := by decide +kernel
theorem dX10_isDry_8 : decode cX10_isDry 8 = .ok (.iadd, 1) := by decide +kernel
theorem dX10_isDry_9 : decode cX10_isDry 9 = .ok (.iaload, 1) := by decide +kernel
theorem dX10_isDry_10 : decode cX10_isDry 10 = .ok (.ifCond .ne 7, 3) := by decide +kernel
theorem dX10_isDry_13 : decode cX10_isDry 13 = .ok (.iconst 1, 1) := by decide +kernel
theorem dX10_isDry_14 : decode cX10_isDry 14 = .ok (.goto 4, 3) := by decide +kernel
theorem dX10_isDry_17 : decode cX10_isDry 17 = .ok (.iconst 0, 1) := by decide +kernel
theorem dX10_isDry_18 : decode cX10_isDry 18 = .ok (.ireturn, 1) := by decide +kernel
set_option maxRecDepth 20000 in
theorem ggX10_beside_X10_tiles : GoodIn wsX10_beside wsX10_tiles := goodIn_ca (goodIn_r _ [6, 1, 7, 8, 9, 10, 11, 12, 13, 14, 15, 16, 17, 18, 19, 20, 21, 22, 23, 24, 25, 26, 27, 28] (by decide +kernel) (by decide +kernel)) (goodIn_sub (fun _ h => List.mem_cons_of_mem _ (List.mem_append_right _ h)) (by decide +kernel))
set_option maxRecDepth 20000 in
theorem gX10_beside_X10_tiles : GoodIn wsX10_beside (wsV RX10 136 RX10 yX10_tiles wsX10_tiles) := goodIn_app (goodIn_of _ (by decide +kernel)) ggX10_beside_X10_tiles
theorem dX10_beside_0 : decode cX10_beside 0 = .ok (.iload_n 1, 1) := by decide +kernel
theorem dX10_beside_1 : decode cX10_beside 1 = .ok (.aload_n 0, 1) := by decide +kernel
theorem dX10_beside_2 : decode cX10_beside 2 = .ok (.getfield 9, 3) := by decide +kernel
theorem dX10_beside_5 : decode cX10_beside 5 = .ok (.iconst 1, 1) := by decide +kernel
theorem dX10_beside_6 : decode cX10_beside 6 = .ok (.iaload, 1) := by decide +kernel
theorem dX10_beside_7 : decode cX10_beside 7 = .ok (.irem, 1) := by decide +kernel
theorem dX10_beside_8 : decode cX10_beside 8 = .ok (.istore_n 3, 1) := by decide +kernel
theorem dX10_beside_9 : decode cX10_beside 9 = .ok (.iload_n 2, 1) := by decide +kernel
theorem dX10_beside_10 : decode cX10_beside 10 = .ok (.tableswitch 89 1 3 #[26, 49, 77], 26) := by decide +kernel
theorem dX10_beside_36 : decode cX10_beside 36 = .ok (.iload_n 1, 1) := by decide +kernel
theorem dX10_beside_37 : decode cX10_beside 37 = .ok (.aload_n 0, 1) := by decide +kernel
theorem dX10_beside_38 : decode cX10_beside 38 = .ok (.getfield 9, 3) := by decide +kernel
theorem dX10_beside_41 : decode cX10_beside 41 = .ok (.iconst 1, 1) := by decide +kernel
theorem dX10_beside_42 : decode cX10_beside 42 = .ok (.iaload, 1) := by decide +kernel
theorem dX10_beside_43 : decode cX10_beside 43 = .ok (.if_icmp .ge 7, 3) := by decide +kernel
theorem dX10_beside_46 : decode cX10_beside 46 = .ok (.iconst (-1), 1) := by decide +kernel
theorem dX10_beside_47 : decode cX10_beside 47 = .ok (.goto 11, 3) := by decide +kernel
theorem dX10_beside_50 : decode cX10_beside 50 = .ok (.iload_n 1, 1) := by decide +kernel
theorem dX10_beside_51 : decode cX10_beside 51 = .ok (.aload_n 0, 1) := by decide +kernel
theorem dX10_beside_52 : decode cX10_beside 52 = .ok (.getfield 9, 3) := by decide +kernel
theorem dX10_beside_55 : decode cX10_beside 55 = .ok (.iconst 1, 1) := by decide +kernel
theorem dX10_beside_56 : decode cX10_beside 56 = .ok (.iaload, 1) := by decide +kernel
theorem dX10_beside_57 : decode cX10_beside 57 = .ok (.isub, 1) := by decide +kernel
theorem dX10_beside_58 : decode cX10_beside 58 = .ok (.ireturn, 1) := by decide +kernel
theorem dX10_beside_59 : decode cX10_beside 59 = .ok (.iload_n 1, 1) := by decide +kernel
theorem dX10_beside_60 : decode cX10_beside 60 = .ok (.aload_n 0, 1) := by decide +kernel
theorem dX10_beside_61 : decode cX10_beside 61 = .ok (.getfield 9, 3) := by decide +kernel
theorem dX10_beside_64 : decode cX10_beside 64 = .ok (.iconst 1, 1) := by decide +kernel
theorem dX10_beside_65 : decode cX10_beside 65 = .ok (.iaload, 1) := by decide +kernel
theorem dX10_beside_66 : decode cX10_beside 66 = .ok (.iadd, 1) := by decide +kernel
theorem dX10_beside_67 : decode cX10_beside 67 = .ok (.aload_n 0, 1) := by decide +kernel
theorem dX10_beside_68 : decode cX10_beside 68 = .ok (.invokevirtual 136, 3) := by decide +kernel
theorem dX10_beside_71 : decode cX10_beside 71 = .ok (.if_icmp .lt 7, 3) := by decide +kernel
theorem dX10_beside_74 : decode cX10_beside 74 = .ok (.iconst (-1), 1) := by decide +kernel
theorem dX10_beside_75 : decode cX10_beside 75 = .ok (.goto 11, 3) := by decide +kernel
theorem dX10_beside_78 : decode cX10_beside 78 = .ok (.iload_n 1, 1) := by decide +kernel
theorem dX10_beside_79 : decode cX10_beside 79 = .ok (.aload_n 0, 1) := by decide +kernel
theorem dX10_beside_80 : decode cX10_beside 80 = .ok (.getfield 9, 3) := by decide +kernel
theorem dX10_beside_83 : decode cX10_beside 83 = .ok (.iconst 1, 1) := by decide +kernel
theorem dX10_beside_84 : decode cX10_beside 84 = .ok (.iaload, 1) := by decide +kernel
theorem dX10_beside_85 : decode cX10_beside 85 = .ok (.iadd, 1) := by decide +kernel
theorem dX10_beside_86 : decode cX10_beside 86 = .ok (.ireturn, 1) := by decide +kernel
theorem dX10_beside_87 : decode cX10_beside 87 = .ok (.iload_n 3, 1) := by decide +kernel
theorem dX10_beside_88 : decode cX10_beside 88 = .ok (.ifCond .ne 7, 3) := by decide +kernel
theorem dX10_beside_91 : decode cX10_beside 91 = .ok (.iconst (-1), 1) := by decide +kernel
theorem dX10_beside_92 : decode cX10_beside 92 = .ok (.goto 6, 3) := by decide +kernel
theorem dX10_beside_95 : decode cX10_beside 95 = .ok (.iload_n 1, 1) := by decide +kernel
theorem dX10_beside_96 : decode cX10_beside 96 = .ok (.iconst 1, 1) := by decide +kernel
theorem dX10_beside_97 : decode cX10_beside 97 = .ok (.isub, 1) := by decide +kernel
theorem dX10_beside_98 : decode cX10_beside 98 = .ok (.ireturn, 1) := by decide +kernel
theorem dX10_beside_99 : decode cX10_beside 99 = .ok (.iload_n 3, 1) := by decide +kernel
theorem dX10_beside_100 : decode cX10_beside 100 = .ok (.aload_n 0, 1) := by decide +kernel
theorem dX10_beside_101 : decode cX10_beside 101 = .ok (.getfield 9, 3) := by decide +kernel
theorem dX10_beside_104 : decode cX10_beside 104 = .ok (.iconst 1, 1) := by decide +kernel
theorem dX10_beside_105 : decode cX10_beside 105 = .ok (.iaload, 1) := by decide +kernel
theorem dX10_beside_106 : decode cX10_beside 106 = .ok (.iconst 1, 1) := by decide +kernel
theorem dX10_beside_107 : decode cX10_beside 107 = .ok (.isub, 1) := by decide +kernel
theorem dX10_beside_108 : decode cX10_beside 108 = .ok (.if_icmp .ne 7, 3) := by decide +kernel
theorem dX10_beside_111 : decode cX10_beside 111 = .ok (.iconst (-1), 1) := by decide +kernel
theorem dX10_beside_112 : decode cX10_beside 112 = .ok (.goto 6, 3) := by decide +kernel
theorem dX10_beside_115 : decode cX10_beside 115 = .ok (.iload_n 1, 1) := by decide +kernel
theorem dX10_beside_116 : decode cX10_beside 116 = .ok (.iconst 1, 1) := by decide +kernel
theorem dX10_beside_117 : decode cX10_beside 117 = .ok (.iadd, 1) := by decide +kernel
theorem dX10_beside_118 : decode cX10_beside 118 = .ok (.ireturn, 1) := by decide +kernel
set_option maxRecDepth 20000 in
theorem ggX10_catMoves_X10_beside : GoodIn wsX10_catMoves wsX10_beside := goodIn_ca (goodIn_r _ [6, 1, 7, 8, 9, 5, 10, 30, 31, 32, 33, 34, 35, 36, 37, 38, 39, 40, 41, 42, 43, 44, 45, 46, 47, 48, 49, 50, 51] (by decide +kernel) (by decide +kernel)) (goodIn_sub (fun _ h => List.mem_cons_of_mem _ (List.mem_append_right _ h)) (by decide +kernel))
set_option maxRecDepth 20000 in
theorem gX10_catMoves_X10_beside : GoodIn wsX10_catMoves (wsV RX10 348 RX10 yX10_beside wsX10_beside) := goodIn_app (goodIn_of _ (by decide +kernel)) ggX10_catMoves_X10_beside
set_option maxRecDepth 20000 in
theorem ggX10_catMoves_X10_isDry : GoodIn wsX10_catMoves wsX10_isDry := goodIn_ca (goodIn_r _ [14, 1, 30, 31, 32, 33, 34, 35, 36, 37, 38, 39, 40, 41, 42, 43, 44, 45, 46, 47, 48, 49, 50, 51] (by decide +kernel) (by decide +kernel)) (goodIn_sub (fun _ h => List.mem_cons_of_mem _ (List.mem_append_right _ h)) (by decide +kernel))
set_option maxRecDepth 20000 in
theorem gX10_catMoves_X10_isDry : GoodIn wsX10_catMoves (wsV RX10 145 RX10 yX10_isDry wsX10_isDry) := goodIn_app (goodIn_of _ (by decide +kernel)) ggX10_catMoves_X10_isDry
set_option maxRecDepth 20000 in
theorem ggX10_catMoves_X10_bowlFalls : GoodIn wsX10_catMoves wsX10_bowlFalls := goodIn_ca (goodIn_r _ [18, 1, 19, 20, 21, 5, 22, 23, 24, 25, 26, 27, 28, 29, 30, 31, 32, 33, 34, 35, 36, 37, 38, 39, 40, 41, 42, 43, 44, 45, 46, 47, 48, 49, 50, 51] (by decide +kernel) (by decide +kernel)) (goodIn_sub (fun _ h => List.mem_cons_of_mem _ (List.mem_append_right _ h)) (by decide +kernel))
set_option maxRecDepth 20000 in
theorem gX10_catMoves_X10_bowlFalls : GoodIn wsX10_catMoves (wsV RX10 351 RX10 yX10_bowlFalls wsX10_bowlFalls) := goodIn_app (goodIn_of _ (by decide +kernel)) ggX10_catMoves_X10_bowlFalls
theorem dX10_catMoves_0 : decode cX10_catMoves 0 = .ok (.aload_n 0, 1) := by decide +kernel
theorem dX10_catMoves_1 : decode cX10_catMoves 1 = .ok (.getfield 9, 3) := by decide +kernel
theorem dX10_catMoves_4 : decode cX10_catMoves 4 = .ok (.bipush 16, 2) := by decide +kernel
theorem dX10_catMoves_6 : decode cX10_catMoves 6 = .ok (.iaload, 1) := by decide +kernel
theorem dX10_catMoves_7 : decode cX10_catMoves 7 = .ok (.iconst (-1), 1) := by decide +kernel
theorem dX10_catMoves_8 : decode cX10_catMoves 8 = .ok (.if_icmp .eq 13, 3) := by decide +kernel
theorem dX10_catMoves_11 : decode cX10_catMoves 11 = .ok (.aload_n 0, 1) := by decide +kernel
theorem dX10_catMoves_12 : decode cX10_catMoves 12 = .ok (.getfield 9, 3) := by decide +kernel
theorem dX10_catMoves_15 : decode cX10_catMoves 15 = .ok (.bipush 17, 2) := by decide +kernel
theorem dX10_catMoves_17 : decode cX10_catMoves 17 = .ok (.iaload, 1) := by decide +kernel
theorem dX10_catMoves_18 : decode cX10_catMoves 18 = .ok (.ifCond .ne 4, 3) := by decide +kernel
theorem dX10_catMoves_21 : decode cX10_catMoves 21 = .ok (.return_, 1) := by decide +kernel
theorem dX10_catMoves_22 : decode cX10_catMoves 22 = .ok (.aload_n 0, 1) := by decide +kernel
theorem dX10_catMoves_23 : decode cX10_catMoves 23 = .ok (.getfield 9, 3) := by decide +kernel
theorem dX10_catMoves_26 : decode cX10_catMoves 26 = .ok (.bipush 54, 2) := by decide +kernel
theorem dX10_catMoves_28 : decode cX10_catMoves 28 = .ok (.aload_n 0, 1) := by decide +kernel
theorem dX10_catMoves_29 : decode cX10_catMoves 29 = .ok (.getfield 9, 3) := by decide +kernel
theorem dX10_catMoves_32 : decode cX10_catMoves 32 = .ok (.bipush 18, 2) := by decide +kernel
theorem dX10_catMoves_34 : decode cX10_catMoves 34 = .ok (.iaload, 1) := by decide +kernel
theorem dX10_catMoves_35 : decode cX10_catMoves 35 = .ok (.iadd, 1) := by decide +kernel
theorem dX10_catMoves_36 : decode cX10_catMoves 36 = .ok (.iaload, 1) := by decide +kernel
theorem dX10_catMoves_37 : decode cX10_catMoves 37 = .ok (.istore_n 1, 1) := by decide +kernel
theorem dX10_catMoves_38 : decode cX10_catMoves 38 = .ok (.iload_n 1, 1) := by decide +kernel
theorem dX10_catMoves_39 : decode cX10_catMoves 39 = .ok (.ifCond .ne 7, 3) := by decide +kernel
theorem dX10_catMoves_42 : decode cX10_catMoves 42 = .ok (.iconst (-1), 1) := by decide +kernel
theorem dX10_catMoves_43 : decode cX10_catMoves 43 = .ok (.goto 15, 3) := by decide +kernel
theorem dX10_catMoves_46 : decode cX10_catMoves 46 = .ok (.aload_n 0, 1) := by decide +kernel
theorem dX10_catMoves_47 : decode cX10_catMoves 47 = .ok (.aload_n 0, 1) := by decide +kernel
theorem dX10_catMoves_48 : decode cX10_catMoves 48 = .ok (.getfield 9, 3) := by decide +kernel
theorem dX10_catMoves_51 : decode cX10_catMoves 51 = .ok (.bipush 16, 2) := by decide +kernel
theorem dX10_catMoves_53 : decode cX10_catMoves 53 = .ok (.iaload, 1) := by decide +kernel
theorem dX10_catMoves_54 : decode cX10_catMoves 54 = .ok (.iload_n 1, 1) := by decide +kernel
theorem dX10_catMoves_55 : decode cX10_catMoves 55 = .ok (.invokevirtual 348, 3) := by decide +kernel
theorem dX10_catMoves_58 : decode cX10_catMoves 58 = .ok (.istore_n 2, 1) := by decide +kernel
theorem dX10_catMoves_59 : decode cX10_catMoves 59 = .ok (.iload_n 2, 1) := by decide +kernel
theorem dX10_catMoves_60 : decode cX10_catMoves 60 = .ok (.iconst (-1), 1) := by decide +kernel
theorem dX10_catMoves_61 : decode cX10_catMoves 61 = .ok (.if_icmp .eq 19, 3) := by decide +kernel
theorem dX10_catMoves_64 : decode cX10_catMoves 64 = .ok (.aload_n 0, 1) := by decide +kernel
theorem dX10_catMoves_65 : decode cX10_catMoves 65 = .ok (.iload_n 2, 1) := by decide +kernel
theorem dX10_catMoves_66 : decode cX10_catMoves 66 = .ok (.invokevirtual 145, 3) := by decide +kernel
theorem dX10_catMoves_69 : decode cX10_catMoves 69 = .ok (.ifCond .eq 11, 3) := by decide +kernel
theorem dX10_catMoves_72 : decode cX10_catMoves 72 = .ok (.aload_n 0, 1) := by decide +kernel
theorem dX10_catMoves_73 : decode cX10_catMoves 73 = .ok (.getfield 9, 3) := by decide +kernel
theorem dX10_catMoves_76 : decode cX10_catMoves 76 = .ok (.bipush 16, 2) := by decide +kernel
theorem dX10_catMoves_78 : decode cX10_catMoves 78 = .ok (.iload_n 2, 1) := by decide +kernel
theorem dX10_catMoves_79 : decode cX10_catMoves 79 = .ok (.iastore, 1) := by decide +kernel
theorem dX10_catMoves_80 : decode cX10_catMoves 80 = .ok (.aload_n 0, 1) := by decide +kernel
theorem dX10_catMoves_81 : decode cX10_catMoves 81 = .ok (.getfield 9, 3) := by decide +kernel
theorem dX10_catMoves_84 : decode cX10_catMoves 84 = .ok (.bipush 18, 2) := by decide +kernel
theorem dX10_catMoves_86 : decode cX10_catMoves 86 = .ok (.aload_n 0, 1) := by decide +kernel
theorem dX10_catMoves_87 : decode cX10_catMoves 87 = .ok (.getfield 9, 3) := by decide +kernel
theorem dX10_catMoves_90 : decode cX10_catMoves 90 = .ok (.bipush 18, 2) := by decide +kernel
theorem dX10_catMoves_92 : decode cX10_catMoves 92 = .ok (.iaload, 1) := by decide +kernel
theorem dX10_catMoves_93 : decode cX10_catMoves 93 = .ok (.iconst 1, 1) := by decide +kernel
theorem dX10_catMoves_94 : decode cX10_catMoves 94 = .ok (.iadd, 1) := by decide +kernel
theorem dX10_catMoves_95 : decode cX10_catMoves 95 = .ok (.aload_n 0, 1) := by decide +kernel
theorem dX10_catMoves_96 : decode cX10_catMoves 96 = .ok (.getfield 9, 3) := by decide +kernel
theorem dX10_catMoves_99 : decode cX10_catMoves 99 = .ok (.bipush 17, 2) := by decide +kernel
theorem dX10_catMoves_101 : decode cX10_catMoves 101 = .ok (.iaload, 1) := by decide +kernel
theorem dX10_catMoves_102 : decode cX10_catMoves 102 = .ok (.irem, 1) := by decide +kernel
theorem dX10_catMoves_103 : decode cX10_catMoves 103 = .ok (.iastore, 1) := by decide +kernel
theorem dX10_catMoves_104 : decode cX10_catMoves 104 = .ok (.aload_n 0, 1) := by decide +kernel
theorem dX10_catMoves_105 : decode cX10_catMoves 105 = .ok (.getfield 9, 3) := by decide +kernel
theorem dX10_catMoves_108 : decode cX10_catMoves 108 = .ok (.bipush 84, 2) := by decide +kernel
theorem dX10_catMoves_110 : decode cX10_catMoves 110 = .ok (.aload_n 0, 1) := by decide +kernel
theorem dX10_catMoves_111 : decode cX10_catMoves 111 = .ok (.getfield 9, 3) := by decide +kernel
theorem dX10_catMoves_114 : decode cX10_catMoves 114 = .ok (.bipush 16, 2) := by decide +kernel
theorem dX10_catMoves_116 : decode cX10_catMoves 116 = .ok (.iaload, 1) := by decide +kernel
theorem dX10_catMoves_117 : decode cX10_catMoves 117 = .ok (.iadd, 1) := by decide +kernel
theorem dX10_catMoves_118 : decode cX10_catMoves 118 = .ok (.iaload, 1) := by decide +kernel
theorem dX10_catMoves_119 : decode cX10_catMoves 119 = .ok (.iconst 1, 1) := by decide +kernel
theorem dX10_catMoves_120 : decode cX10_catMoves 120 = .ok (.if_icmp .ne 7, 3) := by decide +kernel
theorem dX10_catMoves_123 : decode cX10_catMoves 123 = .ok (.aload_n 0, 1) := by decide +kernel
theorem dX10_catMoves_124 : decode cX10_catMoves 124 = .ok (.invokevirtual 351, 3) := by decide +kernel
theorem dX10_catMoves_127 : decode cX10_catMoves 127 = .ok (.return_, 1) := by decide +kernel
set_option maxRecDepth 20000 in
theorem ggX10_bowlFalls_X10_isStartled : GoodIn wsX10_bowlFalls wsX10_isStartled := goodIn_ca (goodIn_r _ [6, 1, 7, 8, 9, 10, 11, 12, 5, 13, 14, 15, 16, 17, 18, 19, 20, 21, 22, 23, 24, 25, 26, 27, 28, 29, 30, 31, 32, 33, 34, 35] (by decide +kernel) (by decide +kernel)) (goodIn_sub (fun _ h => List.mem_cons_of_mem _ (List.mem_append_right _ h)) (by decide +kernel))
set_option maxRecDepth 20000 in
theorem gX10_bowlFalls_X10_isStartled : GoodIn wsX10_bowlFalls (wsV RX10 354 RX10 yX10_isStartled wsX10_isStartled) := goodIn_app (goodIn_of _ (by decide +kernel)) ggX10_bowlFalls_X10_isStartled
theorem dX10_bowlFalls_0 : decode cX10_bowlFalls 0 = .ok (.aload_n 0, 1) := by decide +kernel
theorem dX10_bowlFalls_1 : decode cX10_bowlFalls 1 = .ok (.getfield 9, 3) := by decide +kernel
theorem dX10_bowlFalls_4 : decode cX10_bowlFalls 4 = .ok (.bipush 84, 2) := by decide +kernel
theorem dX10_bowlFalls_6 : decode cX10_bowlFalls 6 = .ok (.aload_n 0, 1) := by decide +kernel
theorem dX10_bowlFalls_7 : decode cX10_bowlFalls 7 = .ok (.getfield 9, 3) := by decide +kernel
theorem dX10_bowlFalls_10 : decode cX10_bowlFalls 10 = .ok (.bipush 16, 2) := by decide +kernel
theorem dX10_bowlFalls_12 : decode cX10_bowlFalls 12 = .ok (.iaload, 1) := by decide +kernel
theorem dX10_bowlFalls_13 : decode cX10_bowlFalls 13 = .ok (.iadd, 1) := by decide +kernel
theorem dX10_bowlFalls_14 : decode cX10_bowlFalls 14 = .ok (.iconst 0, 1) := by decide +kernel
theorem dX10_bowlFalls_15 : decode cX10_bowlFalls 15 = .ok (.iastore, 1) := by decide +kernel
theorem dX10_bowlFalls_16 : decode cX10_bowlFalls 16 = .ok (.aload_n 0, 1) := by decide +kernel
theorem dX10_bowlFalls_17 : decode cX10_bowlFalls 17 = .ok (.getfield 9, 3) := by decide +kernel
theorem dX10_bowlFalls_20 : decode cX10_bowlFalls 20 = .ok (.sipush 244, 3) := by decide +kernel
theorem dX10_bowlFalls_23 : decode cX10_bowlFalls 23 = .ok (.aload_n 0, 1) := by decide +kernel
theorem dX10_bowlFalls_24 : decode cX10_bowlFalls 24 = .ok (.getfield 9, 3) := by decide +kernel
theorem dX10_bowlFalls_27 : decode cX10_bowlFalls 27 = .ok (.bipush 16, 2) := by decide +kernel
theorem dX10_bowlFalls_29 : decode cX10_bowlFalls 29 = .ok (.iaload, 1) := by decide +kernel
theorem dX10_bowlFalls_30 : decode cX10_bowlFalls 30 = .ok (.iadd, 1) := by decide +kernel
theorem dX10_bowlFalls_31 : decode cX10_bowlFalls 31 = .ok (.aload_n 0, 1) := by decide +kernel
theorem dX10_bowlFalls_32 : decode cX10_bowlFalls 32 = .ok (.getfield 9, 3) := by decide +kernel
theorem dX10_bowlFalls_35 : decode cX10_bowlFalls 35 = .ok (.iconst 4, 1) := by decide +kernel
theorem dX10_bowlFalls_36 : decode cX10_bowlFalls 36 = .ok (.iaload, 1) := by decide +kernel
theorem dX10_bowlFalls_37 : decode cX10_bowlFalls 37 = .ok (.iastore, 1) := by decide +kernel
theorem dX10_bowlFalls_38 : decode cX10_bowlFalls 38 = .ok (.aload_n 0, 1) := by decide +kernel
theorem dX10_bowlFalls_39 : decode cX10_bowlFalls 39 = .ok (.getfield 9, 3) := by decide +kernel
theorem dX10_bowlFalls_42 : decode cX10_bowlFalls 42 = .ok (.bipush 8, 2) := by decide +kernel
theorem dX10_bowlFalls_44 : decode cX10_bowlFalls 44 = .ok (.iaload, 1) := by decide +kernel
theorem dX10_bowlFalls_45 : decode cX10_bowlFalls 45 = .ok (.iconst (-1), 1) := by decide +kernel
theorem dX10_bowlFalls_46 : decode cX10_bowlFalls 46 = .ok (.if_icmp .ne 4, 3) := by decide +kernel
theorem dX10_bowlFalls_49 : decode cX10_bowlFalls 49 = .ok (.return_, 1) := by decide +kernel
theorem dX10_bowlFalls_50 : decode cX10_bowlFalls 50 = .ok (.aload_n 0, 1) := by decide +kernel
theorem dX10_bowlFalls_51 : decode cX10_bowlFalls 51 = .ok (.getfield 9, 3) := by decide +kernel
theorem dX10_bowlFalls_54 : decode cX10_bowlFalls 54 = .ok (.bipush 8, 2) := by decide +kernel
theorem dX10_bowlFalls_56 : decode cX10_bowlFalls 56 = .ok (.iaload, 1) := by decide +kernel
theorem dX10_bowlFalls_57 : decode cX10_bowlFalls 57 = .ok (.aload_n 0, 1) := by decide +kernel
theorem dX10_bowlFalls_58 : decode cX10_bowlFalls 58 = .ok (.getfield 9, 3) := by decide +kernel
theorem dX10_bowlFalls_61 : decode cX10_bowlFalls 61 = .ok (.bipush 16, 2) := by decide +kernel
theorem dX10_bowlFalls_63 : decode cX10_bowlFalls 63 = .ok (.iaload, 1) := by decide +kernel
theorem dX10_bowlFalls_64 : decode cX10_bowlFalls 64 = .ok (.if_icmp .eq 8, 3) := by decide +kernel
theorem dX10_bowlFalls_67 : decode cX10_bowlFalls 67 = .ok (.aload_n 0, 1) := by decide +kernel
theorem dX10_bowlFalls_68 : decode cX10_bowlFalls 68 = .ok (.invokevirtual 354, 3) := by decide +kernel
theorem dX10_bowlFalls_71 : decode cX10_bowlFalls 71 = .ok (.return_, 1) := by decide +kernel
theorem dX10_bowlFalls_72 : decode cX10_bowlFalls 72 = .ok (.aload_n 0, 1) := by decide +kernel
theorem dX10_bowlFalls_73 : decode cX10_bowlFalls 73 = .ok (.getfield 9, 3) := by decide +kernel
theorem dX10_bowlFalls_76 : decode cX10_bowlFalls 76 = .ok (.bipush 11, 2) := by decide +kernel
theorem dX10_bowlFalls_78 : decode cX10_bowlFalls 78 = .ok (.aload_n 0, 1) := by decide +kernel
theorem dX10_bowlFalls_79 : decode cX10_bowlFalls 79 = .ok (.getfield 9, 3) := by decide +kernel
theorem dX10_bowlFalls_82 : decode cX10_bowlFalls 82 = .ok (.iconst 5, 1) := by decide +kernel
theorem dX10_bowlFalls_83 : decode cX10_bowlFalls 83 = .ok (.iaload, 1) := by decide +kernel
theorem dX10_bowlFalls_84 : decode cX10_bowlFalls 84 = .ok (.iastore, 1) := by decide +kernel
theorem dX10_bowlFalls_85 : decode cX10_bowlFalls 85 = .ok (.aload_n 0, 1) := by decide +kernel
theorem dX10_bowlFalls_86 : decode cX10_bowlFalls 86 = .ok (.getfield 9, 3) := by decide +kernel
theorem dX10_bowlFalls_89 : decode cX10_bowlFalls 89 = .ok (.bipush 22, 2) := by decide +kernel
theorem dX10_bowlFalls_91 : decode cX10_bowlFalls 91 = .ok (.iconst 0, 1) := by decide +kernel
theorem dX10_bowlFalls_92 : decode cX10_bowlFalls 92 = .ok (.iastore, 1) := by decide +kernel
theorem dX10_bowlFalls_93 : decode cX10_bowlFalls 93 = .ok (.aload_n 0, 1) := by decide +kernel
theorem dX10_bowlFalls_94 : decode cX10_bowlFalls 94 = .ok (.getfield 9, 3) := by decide +kernel
theorem dX10_bowlFalls_97 : decode cX10_bowlFalls 97 = .ok (.bipush 15, 2) := by decide +kernel
theorem dX10_bowlFalls_99 : decode cX10_bowlFalls 99 = .ok (.dup2, 1) := by decide +kernel
theorem dX10_bowlFalls_100 : decode cX10_bowlFalls 100 = .ok (.iaload, 1) := by decide +kernel
theorem dX10_bowlFalls_101 : decode cX10_bowlFalls 101 = .ok (.iconst 1, 1) := by decide +kernel
theorem dX10_bowlFalls_102 : decode cX10_bowlFalls 102 = .ok (.iadd, 1) := by decide +kernel
theorem dX10_bowlFalls_103 : decode cX10_bowlFalls 103 = .ok (.iastore, 1) := by decide +kernel
theorem dX10_bowlFalls_104 : decode cX10_bowlFalls 104 = .ok (.return_, 1) := by decide +kernel
set_option maxRecDepth 20000 in
theorem ggX10_isStartled_X10_one : GoodIn wsX10_isStartled wsX10_one := goodIn_r _ [9] (by decide +kernel) (by decide +kernel)
set_option maxRecDepth 20000 in
theorem gX10_isStartled_X10_one : GoodIn wsX10_isStartled (va_wsS RX10 126 yX10_one wsX10_one) := goodIn_app (goodIn_of _ (by decide +kernel)) ggX10_isStartled_X10_one
theorem dX10_isStartled_0 : decode cX10_isStartled 0 = .ok (.aload_n 0, 1) := by decide +kernel
theorem dX10_isStartled_1 : decode cX10_isStartled 1 = .ok (.getfield 9, 3) := by decide +kernel
theorem dX10_isStartled_4 : decode cX10_isStartled 4 = .ok (.bipush 8, 2) := by decide +kernel
theorem dX10_isStartled_6 : decode cX10_isStartled 6 = .ok (.iaload, 1) := by decide +kernel
theorem dX10_isStartled_7 : decode cX10_isStartled 7 = .ok (.aload_n 0, 1) := by decide +kernel
theorem dX10_isStartled_8 : decode cX10_isStartled 8 = .ok (.getfield 9, 3) := by decide +kernel
theorem dX10_isStartled_11 : decode cX10_isStartled 11 = .ok (.iconst 1, 1) := by decide +kernel
theorem dX10_isStartled_12 : decode cX10_isStartled 12 = .ok (.iaload, 1) := by decide +kernel
theorem dX10_isStartled_13 : decode cX10_isStartled 13 = .ok (.idiv, 1) := by decide +kernel
theorem dX10_isStartled_14 : decode cX10_isStartled 14 = .ok (.aload_n 0, 1) := by decide +kernel
theorem dX10_isStartled_15 : decode cX10_isStartled 15 = .ok (.getfield 9, 3) := by decide +kernel
theorem dX10_isStartled_18 : decode cX10_isStartled 18 = .ok (.bipush 16, 2) := by decide +kernel
theorem dX10_isStartled_20 : decode cX10_isStartled 20 = .ok (.iaload, 1) := by decide +kernel
theorem dX10_isStartled_21 : decode cX10_isStartled 21 = .ok (.aload_n 0, 1) := by decide +kernel
theorem dX10_isStartled_22 : decode cX10_isStartled 22 = .ok (.getfield 9, 3) := by decide +kernel
theorem dX10_isStartled_25 : decode cX10_isStartled 25 = .ok (.iconst 1, 1) := by decide +kernel
theorem dX10_isStartled_26 : decode cX10_isStartled 26 = .ok (.iaload, 1) := by decide +kernel
theorem dX10_isStartled_27 : decode cX10_isStartled 27 = .ok (.idiv, 1) := by decide +kernel
theorem dX10_isStartled_28 : decode cX10_isStartled 28 = .ok (.isub, 1) := by decide +kernel
theorem dX10_isStartled_29 : decode cX10_isStartled 29 = .ok (.invokestatic 357, 3) := by decide +kernel
theorem dX10_isStartled_32 : decode cX10_isStartled 32 = .ok (.istore_n 1, 1) := by decide +kernel
theorem dX10_isStartled_33 : decode cX10_isStartled 33 = .ok (.aload_n 0, 1) := by decide +kernel
theorem dX10_isStartled_34 : decode cX10_isStartled 34 = .ok (.getfield 9, 3) := by decide +kernel
theorem dX10_isStartled_37 : decode cX10_isStartled 37 = .ok (.bipush 16, 2) := by decide +kernel
theorem dX10_isStartled_39 : decode cX10_isStartled 39 = .ok (.iaload, 1) := by decide +kernel
theorem dX10_isStartled_40 : decode cX10_isStartled 40 = .ok (.aload_n 0, 1) := by decide +kernel
theorem dX10_isStartled_41 : decode cX10_isStartled 41 = .ok (.getfield 9, 3) := by decide +kernel
theorem dX10_isStartled_44 : decode cX10_isStartled 44 = .ok (.iconst 1, 1) := by decide +kernel
theorem dX10_isStartled_45 : decode cX10_isStartled 45 = .ok (.iaload, 1) := by decide +kernel
theorem dX10_isStartled_46 : decode cX10_isStartled 46 = .ok (.irem, 1) := by decide +kernel
theorem dX10_isStartled_47 : decode cX10_isStartled 47 = .ok (.istore_n 2, 1) := by decide +kernel
theorem dX10_isStartled_48 : decode cX10_isStartled 48 = .ok (.aload_n 0, 1) := by decide +kernel
theorem dX10_isStartled_49 : decode cX10_isStartled 49 = .ok (.getfield 9, 3) := by decide +kernel
theorem dX10_isStartled_52 : decode cX10_isStartled 52 = .ok (.bipush 9, 2) := by decide +kernel
theorem dX10_isStartled_54 : decode cX10_isStartled 54 = .ok (.iaload, 1) := by decide +kernel
theorem dX10_isStartled_55 : decode cX10_isStartled 55 = .ok (.iload_n 2, 1) := by decide +kernel
theorem dX10_isStartled_56 : decode cX10_isStartled 56 = .ok (.isub, 1) := by decide +kernel
theorem dX10_isStartled_57 : decode cX10_isStartled 57 = .ok (.invokestatic 357, 3) := by decide +kernel
theorem dX10_isStartled_60 : decode cX10_isStartled 60 = .ok (.istore_n 3, 1) := by decide +kernel
theorem dX10_isStartled_61 : decode cX10_isStartled 61 = .ok (.iload_n 1, 1) := by decide +kernel
theorem dX10_isStartled_62 : decode cX10_isStartled 62 = .ok (.iload_n 3, 1) := by decide +kernel
theorem dX10_isStartled_63 : decode cX10_isStartled 63 = .ok (.iadd, 1) := by decide +kernel
theorem dX10_isStartled_64 : decode cX10_isStartled 64 = .ok (.aload_n 0, 1) := by decide +kernel
theorem dX10_isStartled_65 : decode cX10_isStartled 65 = .ok (.getfield 9, 3) := by decide +kernel
theorem dX10_isStartled_68 : decode cX10_isStartled 68 = .ok (.bipush 21, 2) := by decide +kernel
theorem dX10_isStartled_70 : decode cX10_isStartled 70 = .ok (.iaload, 1) := by decide +kernel
theorem dX10_isStartled_71 : decode cX10_isStartled 71 = .ok (.if_icmp .gt 7, 3) := by decide +kernel
theorem dX10_isStartled_74 : decode cX10_isStartled 74 = .ok (.iload_n 3, 1) := by decide +kernel
theorem dX10_isStartled_75 : decode cX10_isStartled 75 = .ok (.ifCond .ne 4, 3) := by decide +kernel
theorem dX10_isStartled_78 : decode cX10_isStartled 78 = .ok (.return_, 1) := by decide +kernel
theorem dX10_isStartled_79 : decode cX10_isStartled 79 = .ok (.aload_n 0, 1) := by decide +kernel
theorem dX10_isStartled_80 : decode cX10_isStartled 80 = .ok (.getfield 9, 3) := by decide +kernel
theorem dX10_isStartled_83 : decode cX10_isStartled 83 = .ok (.bipush 10, 2) := by decide +kernel
theorem dX10_isStartled_85 : decode cX10_isStartled 85 = .ok (.iload_n 2, 1) := by decide +kernel
theorem dX10_isStartled_86 : decode cX10_isStartled 86 = .ok (.aload_n 0, 1) := by decide +kernel
theorem dX10_isStartled_87 : decode cX10_isStartled 87 = .ok (.getfield 9, 3) := by decide +kernel
theorem dX10_isStartled_90 : decode cX10_isStartled 90 = .ok (.bipush 9, 2) := by decide +kernel
theorem dX10_isStartled_92 : decode cX10_isStartled 92 = .ok (.iaload, 1) := by decide +kernel
theorem dX10_isStartled_93 : decode cX10_isStartled 93 = .ok (.if_icmp .ge 7, 3) := by decide +kernel
theorem dX10_isStartled_96 : decode cX10_isStartled 96 = .ok (.iconst 1, 1) := by decide +kernel
theorem dX10_isStartled_97 : decode cX10_isStartled 97 = .ok (.goto 4, 3) := by decide +kernel
theorem dX10_isStartled_100 : decode cX10_isStartled 100 = .ok (.iconst 0, 1) := by decide +kernel
theorem dX10_isStartled_101 : decode cX10_isStartled 101 = .ok (.invokestatic 126, 3) := by decide +kernel
theorem dX10_isStartled_104 : decode cX10_isStartled 104 = .ok (.iastore, 1) := by decide +kernel
theorem dX10_isStartled_105 : decode cX10_isStartled 105 = .ok (.return_, 1) := by decide +kernel
set_option maxRecDepth 20000 in
theorem ggX10_ahead_X10_beside : GoodIn wsX10_ahead wsX10_beside := goodIn_ca (goodIn_r _ [6, 1, 7, 8, 9, 5, 10, 11, 12, 13, 14, 15, 16, 17, 18, 19, 20, 21, 22, 23, 24, 25, 26, 27, 28, 29, 30, 31, 32] (by decide +kernel) (by decide +kernel)) (goodIn_sub (fun _ h => List.mem_cons_of_mem _ (List.mem_append_right _ h)) (by decide +kernel))
set_option maxRecDepth 20000 in
theorem gX10_ahead_X10_beside : GoodIn wsX10_ahead (wsV RX10 348 RX10 yX10_beside wsX10_beside) := goodIn_app (goodIn_of _ (by decide +kernel)) ggX10_ahead_X10_beside
theorem dX10_ahead_0 : decode cX10_ahead 0 = .ok (.aload_n 0, 1) := by decide +kernel
theorem dX10_ahead_1 : decode cX10_ahead 1 = .ok (.aload_n 0, 1) := by decide +kernel
theorem dX10_ahead_2 : decode cX10_ahead 2 = .ok (.getfield 9, 3) := by decide +kernel
theorem dX10_ahead_5 : decode cX10_ahead 5 = .ok (.bipush 8, 2) := by decide +kernel
theorem dX10_ahead_7 : decode cX10_ahead 7 = .ok (.iaload, 1) := by decide +kernel
theorem dX10_ahead_8 : decode cX10_ahead 8 = .ok (.aload_n 0, 1) := by decide +kernel
theorem dX10_ahead_9 : decode cX10_ahead 9 = .ok (.getfield 9, 3) := by decide +kernel
theorem dX10_ahead_12 : decode cX10_ahead 12 = .ok (.bipush 10, 2) := by decide +kernel
theorem dX10_ahead_14 : decode cX10_ahead 14 = .ok (.iaload, 1) := by decide +kernel
theorem dX10_ahead_15 : decode cX10_ahead 15 = .ok (.iconst 1, 1) := by decide +kernel
theorem dX10_ahead_16 : decode cX10_ahead 16 = .ok (.if_icmp .ne 7, 3) := by decide +kernel
theorem dX10_ahead_19 : decode cX10_ahead 19 = .ok (.iconst 4, 1) := by decide +kernel
theorem dX10_ahead_20 : decode cX10_ahead 20 = .ok (.goto 4, 3) := by decide +kernel
theorem dX10_ahead_23 : decode cX10_ahead 23 = .ok (.iconst 3, 1) := by decide +kernel
theorem dX10_ahead_24 : decode cX10_ahead 24 = .ok (.invokevirtual 348, 3) := by decide +kernel
theorem dX10_ahead_27 : decode cX10_ahead 27 = .ok (.ireturn, 1) := by decide +kernel
set_option maxRecDepth 20000 in
theorem ggX10_canStep_X10_ahead : GoodIn wsX10_canStep wsX10_ahead := goodIn_ca (goodIn_r _ [6, 1, 7, 8, 9, 5, 10, 11, 12, 13, 14, 23, 24, 25, 26, 27, 28, 29, 30, 31, 32, 33, 34, 35, 36, 37, 38, 39, 40, 41, 42, 43, 44] (by decide +kernel) (by decide +kernel)) (goodIn_sub (fun _ h => List.mem_cons_of_mem _ (List.mem_append_right _ h)) (by decide +kernel))
set_option maxRecDepth 20000 in
theorem gX10_canStep_X10_ahead : GoodIn wsX10_canStep (wsV RX10 362 RX10 yX10_ahead wsX10_ahead) := goodIn_app (goodIn_of _ (by decide +kernel)) ggX10_canStep_X10_ahead
set_option maxRecDepth 20000 in
theorem ggX10_canStep_X10_isClosed : GoodIn wsX10_canStep wsX10_isClosed := goodIn_ca (goodIn_r _ [18, 1, 23, 24, 25, 26, 27, 28, 29, 30, 31, 32, 33, 34, 35, 36, 37, 38, 39, 40, 41, 42, 43, 44] (by decide +kernel) (by decide +kernel)) (goodIn_sub (fun _ h => List.mem_cons_of_mem _ (List.mem_append_right _ h)) (by decide +kernel))
set_option maxRecDepth 20000 in
theorem gX10_canStep_X10_isClosed : GoodIn wsX10_canStep (wsV RX10 345 RX10 yX10_isClosed wsX10_isClosed) := goodIn_app (goodIn_of _ (by decide +kernel)) ggX10_canStep_X10_isClosed
set_option maxRecDepth 20000 in
theorem ggX10_canStep_X10_isDry : GoodIn wsX10_canStep wsX10_isDry := goodIn_ca (goodIn_r _ [22, 1, 23, 24, 25, 26, 27, 28, 29, 30, 31, 32, 33, 34, 35, 36, 37, 38, 39, 40, 41, 42, 43, 44] (by decide +kernel) (by decide +kernel)) (goodIn_sub (fun _ h => List.mem_cons_of_mem _ (List.mem_append_right _ h)) (by decide +kernel))
set_option maxRecDepth 20000 in
theorem gX10_canStep_X10_isDry : GoodIn wsX10_canStep (wsV RX10 145 RX10 yX10_isDry wsX10_isDry) := goodIn_app (goodIn_of _ (by decide +kernel)) ggX10_canStep_X10_isDry
theorem dX10_canStep_0 : decode cX10_canStep 0 = .ok (.aload_n 0, 1) := by decide +kernel
theorem dX10_canStep_1 : decode cX10_canStep 1 = .ok (.invokevirtual 362, 3) := by decide +kernel
theorem dX10_canStep_4 : decode cX10_canStep 4 = .ok (.istore_n 1, 1) := by decide +kernel
theorem dX10_canStep_5 : decode cX10_canStep 5 = .ok (.iload_n 1, 1) := by decide +kernel
theorem dX10_canStep_6 : decode cX10_canStep 6 = .ok (.iconst (-1), 1) := by decide +kernel
theorem dX10_canStep_7 : decode cX10_canStep 7 = .ok (.if_icmp .eq 30, 3) := by decide +kernel
theorem dX10_canStep_10 : decode cX10_canStep 10 = .ok (.aload_n 0, 1) := by decide +kernel
theorem dX10_canStep_11 : decode cX10_canStep 11 = .ok (.iload_n 1, 1) := by decide +kernel
theorem dX10_canStep_12 : decode cX10_canStep 12 = .ok (.aload_n 0, 1) := by decide +kernel
theorem dX10_canStep_13 : decode cX10_canStep 13 = .ok (.getfield 9, 3) := by decide +kernel
theorem dX10_canStep_16 : decode cX10_canStep 16 = .ok (.iconst 1, 1) := by decide +kernel
theorem dX10_canStep_17 : decode cX10_canStep 17 = .ok (.iaload, 1) := by decide +kernel
theorem dX10_canStep_18 : decode cX10_canStep 18 = .ok (.irem, 1) := by decide +kernel
theorem dX10_canStep_19 : decode cX10_canStep 19 = .ok (.invokevirtual 345, 3) := by decide +kernel
theorem dX10_canStep_22 : decode cX10_canStep 22 = .ok (.ifCond .ne 15, 3) := by decide +kernel
theorem dX10_canStep_25 : decode cX10_canStep 25 = .ok (.aload_n 0, 1) := by decide +kernel
theorem dX10_canStep_26 : decode cX10_canStep 26 = .ok (.iload_n 1, 1) := by decide +kernel
theorem dX10_canStep_27 : decode cX10_canStep 27 = .ok (.invokevirtual 145, 3) := by decide +kernel
theorem dX10_canStep_30 : decode cX10_canStep 30 = .ok (.ifCond .eq 7, 3) := by decide +kernel
theorem dX10_canStep_33 : decode cX10_canStep 33 = .ok (.iconst 1, 1) := by decide +kernel
theorem dX10_canStep_34 : decode cX10_canStep 34 = .ok (.goto 4, 3) := by decide +kernel
theorem dX10_canStep_37 : decode cX10_canStep 37 = .ok (.iconst 0, 1) := by decide +kernel
theorem dX10_canStep_38 : decode cX10_canStep 38 = .ok (.ireturn, 1) := by decide +kernel
set_option maxRecDepth 20000 in
theorem ggX10_tries_X10_canStep : GoodIn wsX10_tries wsX10_canStep := goodIn_ca (goodIn_r _ [6, 1, 7, 8, 9, 5, 10, 11, 12, 13, 14, 15, 16, 17, 18, 19, 20, 21, 22, 23, 24, 25, 26, 35, 36, 37, 38, 39, 40, 41, 42, 43, 44, 45, 46, 47, 48, 49, 50, 51, 52, 53, 54, 55, 56] (by decide +kernel) (by decide +kernel)) (goodIn_sub (fun _ h => List.mem_cons_of_mem _ (List.mem_append_right _ h)) (by decide +kernel))
set_option maxRecDepth 20000 in
theorem gX10_tries_X10_canStep : GoodIn wsX10_tries (wsV RX10 365 RX10 yX10_canStep wsX10_canStep) := goodIn_app (goodIn_of _ (by decide +kernel)) ggX10_tries_X10_canStep
set_option maxRecDepth 20000 in
theorem ggX10_tries_X10_ahead : GoodIn wsX10_tries wsX10_ahead := goodIn_ca (goodIn_r _ [10, 1, 11, 12, 13, 5, 14, 15, 16, 17, 18, 35, 36, 37, 38, 39, 40, 41, 42, 43, 44, 45, 46, 47, 48, 49, 50, 51, 52, 53, 54, 55, 56] (by decide +kernel) (by decide +kernel)) (goodIn_sub (fun _ h => List.mem_cons_of_mem _ (List.mem_append_right _ h)) (by decide +kernel))
set_option maxRecDepth 20000 in
theorem gX10_tries_X10_ahead : GoodIn wsX10_tries (wsV RX10 362 RX10 yX10_ahead wsX10_ahead) := goodIn_app (goodIn_of _ (by decide +kernel)) ggX10_tries_X10_ahead
set_option maxRecDepth 20000 in
theorem ggX10_tries_X10_slides : GoodIn wsX10_tries wsX10_slides := goodIn_ca (goodIn_r _ [30, 1, 7, 8, 9, 5, 10, 11, 12, 13, 14, 15, 16, 17, 18, 31, 32, 33, 34, 35, 36, 37, 38, 39, 40, 41, 42, 43, 44, 45, 46, 47, 48, 49, 50, 51, 52, 53, 54, 55, 56] (by decide +kernel) (by decide +kernel)) (goodIn_sub (fun _ h => List.mem_cons_of_mem _ (List.mem_append_right _ h)) (by decide +kernel))
set_option maxRecDepth 20000 in
theorem gX10_tries_X10_slides : GoodIn wsX10_tries (wsV RX10 368 RX10 yX10_slides wsX10_slides) := goodIn_app (goodIn_of _ (by decide +kernel)) ggX10_tries_X10_slides
theorem dX10_tries_0 : decode cX10_tries 0 = .ok (.aload_n 0, 1) := by decide +kernel
theorem dX10_tries_1 : decode cX10_tries 1 = .ok (.invokevirtual 365, 3) := by decide +kernel
theorem dX10_tries_4 : decode cX10_tries 4 = .ok (.ifCond .ne 31, 3) := by decide +kernel
theorem dX10_tries_7 : decode cX10_tries 7 = .ok (.aload_n 0, 1) := by decide +kernel
theorem dX10_tries_8 : decode cX10_tries 8 = .ok (.getfield 9, 3) := by decide +kernel
theorem dX10_tries_11 : decode cX10_tries 11 = .ok (.bipush 10, 2) := by decide +kernel
theorem dX10_tries_13 : decode cX10_tries 13 = .ok (.iconst 1, 1) := by decide +kernel
theorem dX10_tries_14 : decode cX10_tries 14 = .ok (.aload_n 0, 1) := by decide +kernel
theorem dX10_tries_15 : decode cX10_tries 15 = .ok (.getfield 9, 3) := by decide +kernel
theorem dX10_tries_18 : decode cX10_tries 18 = .ok (.bipush 10, 2) := by decide +kernel
theorem dX10_tries_20 : decode cX10_tries 20 = .ok (.iaload, 1) := by decide +kernel
theorem dX10_tries_21 : decode cX10_tries 21 = .ok (.isub, 1) := by decide +kernel
theorem dX10_tries_22 : decode cX10_tries 22 = .ok (.iastore, 1) := by decide +kernel
theorem dX10_tries_23 : decode cX10_tries 23 = .ok (.aload_n 0, 1) := by decide +kernel
theorem dX10_tries_24 : decode cX10_tries 24 = .ok (.getfield 9, 3) := by decide +kernel
theorem dX10_tries_27 : decode cX10_tries 27 = .ok (.bipush 14, 2) := by decide +kernel
theorem dX10_tries_29 : decode cX10_tries 29 = .ok (.dup2, 1) := by decide +kernel
theorem dX10_tries_30 : decode cX10_tries 30 = .ok (.iaload, 1) := by decide +kernel
theorem dX10_tries_31 : decode cX10_tries 31 = .ok (.iconst 1, 1) := by decide +kernel
theorem dX10_tries_32 : decode cX10_tries 32 = .ok (.iadd, 1) := by decide +kernel
theorem dX10_tries_33 : decode cX10_tries 33 = .ok (.iastore, 1) := by decide +kernel
theorem dX10_tries_34 : decode cX10_tries 34 = .ok (.return_, 1) := by decide +kernel
theorem dX10_tries_35 : decode cX10_tries 35 = .ok (.aload_n 0, 1) := by decide +kernel
theorem dX10_tries_36 : decode cX10_tries 36 = .ok (.getfield 9, 3) := by decide +kernel
theorem dX10_tries_39 : decode cX10_tries 39 = .ok (.bipush 8, 2) := by decide +kernel
theorem dX10_tries_41 : decode cX10_tries 41 = .ok (.aload_n 0, 1) := by decide +kernel
theorem dX10_tries_42 : decode cX10_tries 42 = .ok (.invokevirtual 362, 3) := by decide +kernel
theorem dX10_tries_45 : decode cX10_tries 45 = .ok (.iastore, 1) := by decide +kernel
theorem dX10_tries_46 : decode cX10_tries 46 = .ok (.aload_n 0, 1) := by decide +kernel
theorem dX10_tries_47 : decode cX10_tries 47 = .ok (.getfield 9, 3) := by decide +kernel
theorem dX10_tries_50 : decode cX10_tries 50 = .ok (.bipush 9, 2) := by decide +kernel
theorem dX10_tries_52 : decode cX10_tries 52 = .ok (.aload_n 0, 1) := by decide +kernel
theorem dX10_tries_53 : decode cX10_tries 53 = .ok (.getfield 9, 3) := by decide +kernel
theorem dX10_tries_56 : decode cX10_tries 56 = .ok (.bipush 8, 2) := by decide +kernel
theorem dX10_tries_58 : decode cX10_tries 58 = .ok (.iaload, 1) := by decide +kernel
theorem dX10_tries_59 : decode cX10_tries 59 = .ok (.aload_n 0, 1) := by decide +kernel
theorem dX10_tries_60 : decode cX10_tries 60 = .ok (.getfield 9, 3) := by decide +kernel
theorem dX10_tries_63 : decode cX10_tries 63 = .ok (.iconst 1, 1) := by decide +kernel
theorem dX10_tries_64 : decode cX10_tries 64 = .ok (.iaload, 1) := by decide +kernel
theorem dX10_tries_65 : decode cX10_tries 65 = .ok (.irem, 1) := by decide +kernel
theorem dX10_tries_66 : decode cX10_tries 66 = .ok (.iastore, 1) := by decide +kernel
theorem dX10_tries_67 : decode cX10_tries 67 = .ok (.aload_n 0, 1) := by decide +kernel
theorem dX10_tries_68 : decode cX10_tries 68 = .ok (.getfield 9, 3) := by decide +kernel
theorem dX10_tries_71 : decode cX10_tries 71 = .ok (.sipush 324, 3) := by decide +kernel
theorem dX10_tries_74 : decode cX10_tries 74 = .ok (.aload_n 0, 1) := by decide +kernel
theorem dX10_tries_75 : decode cX10_tries 75 = .ok (.getfield 9, 3) := by decide +kernel
theorem dX10_tries_78 : decode cX10_tries 78 = .ok (.bipush 8, 2) := by decide +kernel
theorem dX10_tries_80 : decode cX10_tries 80 = .ok (.iaload, 1) := by decide +kernel
theorem dX10_tries_81 : decode cX10_tries 81 = .ok (.iadd, 1) := by decide +kernel
theorem dX10_tries_82 : decode cX10_tries 82 = .ok (.dup2, 1) := by decide +kernel
theorem dX10_tries_83 : decode cX10_tries 83 = .ok (.iaload, 1) := by decide +kernel
theorem dX10_tries_84 : decode cX10_tries 84 = .ok (.iconst 1, 1) := by decide +kernel
theorem dX10_tries_85 : decode cX10_tries 85 = .ok (.iadd, 1) := by decide +kernel
theorem dX10_tries_86 : decode cX10_tries 86 = .ok (.iastore, 1) := by decide +kernel
theorem dX10_tries_87 : decode cX10_tries 87 = .ok (.aload_n 0, 1) := by decide +kernel
theorem dX10_tries_88 : decode cX10_tries 88 = .ok (.getfield 9, 3) := by decide +kernel
theorem dX10_tries_91 : decode cX10_tries 91 = .ok (.bipush 12, 2) := by decide +kernel
theorem dX10_tries_93 : decode cX10_tries 93 = .ok (.dup2, 1) := by decide +kernel
theorem dX10_tries_94 : decode cX10_tries 94 = .ok (.iaload, 1) := by decide +kernel
theorem dX10_tries_95 : decode cX10_tries 95 = .ok (.iconst 1, 1) := by decide +kernel
theorem dX10_tries_96 : decode cX10_tries 96 = .ok (.iadd, 1) := by decide +kernel
theorem dX10_tries_97 : decode cX10_tries 97 = .ok (.iastore, 1) := by decide +kernel
theorem dX10_tries_98 : decode cX10_tries 98 = .ok (.aload_n 0, 1) := by decide +kernel
theorem dX10_tries_99 : decode cX10_tries 99 = .ok (.getfield 9, 3) := by decide +kernel
theorem dX10_tries_102 : decode cX10_tries 102 = .ok (.bipush 13, 2) := by decide +kernel
theorem dX10_tries_104 : decode cX10_tries 104 = .ok (.dup2, 1) := by decide +kernel
theorem dX10_tries_105 : decode cX10_tries 105 = .ok (.iaload, 1) := by decide +kernel
theorem dX10_tries_106 : decode cX10_tries 106 = .ok (.iconst 1, 1) := by decide +kernel
theorem dX10_tries_107 : decode cX10_tries 107 = .ok (.iadd, 1) := by decide +kernel
theorem dX10_tries_108 : decode cX10_tries 108 = .ok (.iastore, 1) := by decide +kernel
theorem dX10_tries_109 : decode cX10_tries 109 = .ok (.aload_n 0, 1) := by decide +kernel
theorem dX10_tries_110 : decode cX10_tries 110 = .ok (.getfield 9, 3) := by decide +kernel
theorem dX10_tries_113 : decode cX10_tries 113 = .ok (.bipush 22, 2) := by decide +kernel
theorem dX10_tries_115 : decode cX10_tries 115 = .ok (.dup2, 1) := by decide +kernel
theorem dX10_tries_116 : decode cX10_tries 116 = .ok (.iaload, 1) := by decide +kernel
theorem dX10_tries_117 : decode cX10_tries 117 = .ok (.iconst 1, 1) := by decide +kernel
theorem dX10_tries_118 : decode cX10_tries 118 = .ok (.iadd, 1) := by decide +kernel
theorem dX10_tries_119 : decode cX10_tries 119 = .ok (.iastore, 1) := by decide +kernel
theorem dX10_tries_120 : decode cX10_tries 120 = .ok (.aload_n 0, 1) := by decide +kernel
theorem dX10_tries_121 : decode cX10_tries 121 = .ok (.getfield 9, 3) := by decide +kernel
theorem dX10_tries_124 : decode cX10_tries 124 = .ok (.sipush 164, 3) := by decide +kernel
theorem dX10_tries_127 : decode cX10_tries 127 = .ok (.aload_n 0, 1) := by decide +kernel
theorem dX10_tries_128 : decode cX10_tries 128 = .ok (.getfield 9, 3) := by decide +kernel
theorem dX10_tries_131 : decode cX10_tries 131 = .ok (.bipush 8, 2) := by decide +kernel
theorem dX10_tries_133 : decode cX10_tries 133 = .ok (.iaload, 1) := by decide +kernel
theorem dX10_tries_134 : decode cX10_tries 134 = .ok (.iadd, 1) := by decide +kernel
theorem dX10_tries_135 : decode cX10_tries 135 = .ok (.iaload, 1) := by decide +kernel
theorem dX10_tries_136 : decode cX10_tries 136 = .ok (.iconst 1, 1) := by decide +kernel
theorem dX10_tries_137 : decode cX10_tries 137 = .ok (.if_icmp .ne 7, 3) := by decide +kernel
theorem dX10_tries_140 : decode cX10_tries 140 = .ok (.aload_n 0, 1) := by decide +kernel
theorem dX10_tries_141 : decode cX10_tries 141 = .ok (.invokevirtual 368, 3) := by decide +kernel
theorem dX10_tries_144 : decode cX10_tries 144 = .ok (.return_, 1) := by decide +kernel
set_option maxRecDepth 20000 in
theorem ggX10_slides_X10_ahead : GoodIn wsX10_slides wsX10_ahead := goodIn_ca (goodIn_r _ [6, 1, 7, 8, 9, 5, 10, 11, 12, 13, 14, 19, 20, 21, 22, 23, 24, 25, 26, 27, 28, 29, 30, 31, 32, 33, 34, 35, 36, 37, 38, 39, 40] (by decide +kernel) (by decide +kernel)) (goodIn_sub (fun _ h => List.mem_cons_of_mem _ (List.mem_append_right _ h)) (by decide +kernel))
set_option maxRecDepth 20000 in
theorem gX10_slides_X10_ahead : GoodIn wsX10_slides (wsV RX10 362 RX10 yX10_ahead wsX10_ahead) := goodIn_app (goodIn_of _ (by decide +kernel)) ggX10_slides_X10_ahead
set_option maxRecDepth 20000 in
theorem ggX10_slides_X10_isEmpty : GoodIn wsX10_slides wsX10_isEmpty := goodIn_ca (goodIn_r _ [18, 1, 19, 20, 21, 22, 23, 24, 25, 26, 27, 28, 29, 30, 31, 32, 33, 34, 35, 36, 37, 38, 39, 40] (by decide +kernel) (by decide +kernel)) (goodIn_sub (fun _ h => List.mem_cons_of_mem _ (List.mem_append_right _ h)) (by decide +kernel))
set_option maxRecDepth 20000 in
theorem gX10_slides_X10_isEmpty : GoodIn wsX10_slides (wsV RX10 142 RX10 yX10_isEmpty wsX10_isEmpty) := goodIn_app (goodIn_of _ (by decide +kernel)) ggX10_slides_X10_isEmpty
theorem dX10_slides_0 : decode cX10_slides 0 = .ok (.aload_n 0, 1) := by decide +kernel
theorem dX10_slides_1 : decode cX10_slides 1 = .ok (.invokevirtual 362, 3) := by decide +kernel
theorem dX10_slides_4 : decode cX10_slides 4 = .ok (.istore_n 1, 1) := by decide +kernel
theorem dX10_slides_5 : decode cX10_slides 5 = .ok (.iload_n 1, 1) := by decide +kernel
theorem dX10_slides_6 : decode cX10_slides 6 = .ok (.iconst (-1), 1) := by decide +kernel
theorem dX10_slides_7 : decode cX10_slides 7 = .ok (.if_icmp .eq 25, 3) := by decide +kernel
theorem dX10_slides_10 : decode cX10_slides 10 = .ok (.aload_n 0, 1) := by decide +kernel
theorem dX10_slides_11 : decode cX10_slides 11 = .ok (.getfield 9, 3) := by decide +kernel
theorem dX10_slides_14 : decode cX10_slides 14 = .ok (.sipush 164, 3) := by decide +kernel
theorem dX10_slides_17 : decode cX10_slides 17 = .ok (.iload_n 1, 1) := by decide +kernel
theorem dX10_slides_18 : decode cX10_slides 18 = .ok (.iadd, 1) := by decide +kernel
theorem dX10_slides_19 : decode cX10_slides 19 = .ok (.iaload, 1) := by decide +kernel
theorem dX10_slides_20 : decode cX10_slides 20 = .ok (.iconst 1, 1) := by decide +kernel
theorem dX10_slides_21 : decode cX10_slides 21 = .ok (.if_icmp .eq 11, 3) := by decide +kernel
theorem dX10_slides_24 : decode cX10_slides 24 = .ok (.aload_n 0, 1) := by decide +kernel
theorem dX10_slides_25 : decode cX10_slides 25 = .ok (.iload_n 1, 1) := by decide +kernel
theorem dX10_slides_26 : decode cX10_slides 26 = .ok (.invokevirtual 142, 3) := by decide +kernel
theorem dX10_slides_29 : decode cX10_slides 29 = .ok (.ifCond .ne 4, 3) := by decide +kernel
theorem dX10_slides_32 : decode cX10_slides 32 = .ok (.return_, 1) := by decide +kernel
theorem dX10_slides_33 : decode cX10_slides 33 = .ok (.aload_n 0, 1) := by decide +kernel
theorem dX10_slides_34 : decode cX10_slides 34 = .ok (.getfield 9, 3) := by decide +kernel
theorem dX10_slides_37 : decode cX10_slides 37 = .ok (.sipush 164, 3) := by decide +kernel
theorem dX10_slides_40 : decode cX10_slides 40 = .ok (.aload_n 0, 1) := by decide +kernel
theorem dX10_slides_41 : decode cX10_slides 41 = .ok (.getfield 9, 3) := by decide +kernel
theorem dX10_slides_44 : decode cX10_slides 44 = .ok (.bipush 8, 2) := by decide +kernel
theorem dX10_slides_46 : decode cX10_slides 46 = .ok (.iaload, 1) := by decide +kernel
theorem dX10_slides_47 : decode cX10_slides 47 = .ok (.iadd, 1) := by decide +kernel
theorem dX10_slides_48 : decode cX10_slides 48 = .ok (.iconst 0, 1) := by decide +kernel
theorem dX10_slides_49 : decode cX10_slides 49 = .ok (.iastore, 1) := by decide +kernel
theorem dX10_slides_50 : decode cX10_slides 50 = .ok (.aload_n 0, 1) := by decide +kernel
theorem dX10_slides_51 : decode cX10_slides 51 = .ok (.getfield 9, 3) := by decide +kernel
theorem dX10_slides_54 : decode cX10_slides 54 = .ok (.sipush 164, 3) := by decide +kernel
theorem dX10_slides_57 : decode cX10_slides 57 = .ok (.iload_n 1, 1) := by decide +kernel
theorem dX10_slides_58 : decode cX10_slides 58 = .ok (.iadd, 1) := by decide +kernel
theorem dX10_slides_59 : decode cX10_slides 59 = .ok (.iconst 1, 1) := by decide +kernel
theorem dX10_slides_60 : decode cX10_slides 60 = .ok (.iastore, 1) := by decide +kernel
theorem dX10_slides_61 : decode cX10_slides 61 = .ok (.aload_n 0, 1) := by decide +kernel
theorem dX10_slides_62 : decode cX10_slides 62 = .ok (.getfield 9, 3) := by decide +kernel
theorem dX10_slides_65 : decode cX10_slides 65 = .ok (.bipush 23, 2) := by decide +kernel
theorem dX10_slides_67 : decode cX10_slides 67 = .ok (.dup2, 1) := by decide +kernel
theorem dX10_slides_68 : decode cX10_slides 68 = .ok (.iaload, 1) := by decide +kernel
theorem dX10_slides_69 : decode cX10_slides 69 = .ok (.iconst 1, 1) := by decide +kernel
theorem dX10_slides_70 : decode cX10_slides 70 = .ok (.iadd, 1) := by decide +kernel
theorem dX10_slides_71 : decode cX10_slides 71 = .ok (.iastore, 1) := by decide +kernel
theorem dX10_slides_72 : decode cX10_slides 72 = .ok (.return_, 1) := by decide +kernel
theorem dX10_isTired_0 : decode cX10_isTired 0 = .ok (.aload_n 0, 1) := by decide +kernel
theorem dX10_isTired_1 : decode cX10_isTired 1 = .ok (.getfield 9, 3) := by decide +kernel
theorem dX10_isTired_4 : decode cX10_isTired 4 = .ok (.bipush 20, 2) := by decide +kernel
theorem dX10_isTired_6 : decode cX10_isTired 6 = .ok (.iaload, 1) := by decide +kernel
theorem dX10_isTired_7 : decode cX10_isTired 7 = .ok (.ifCond .le 24, 3) := by decide +kernel
theorem dX10_isTired_10 : decode cX10_isTired 10 = .ok (.aload_n 0, 1) := by decide +kernel
theorem dX10_isTired_11 : decode cX10_isTired 11 = .ok (.getfield 9, 3) := by decide +kernel
theorem dX10_isTired_14 : decode cX10_isTired 14 = .ok (.bipush 22, 2) := by decide +kernel
theorem dX10_isTired_16 : decode cX10_isTired 16 = .ok (.iaload, 1) := by decide +kernel
theorem dX10_isTired_17 : decode cX10_isTired 17 = .ok (.aload_n 0, 1) := by decide +kernel
theorem dX10_isTired_18 : decode cX10_isTired 18 = .ok (.getfield 9, 3) := by decide +kernel
theorem dX10_isTired_21 : decode cX10_isTired 21 = .ok (.bipush 20, 2) := by decide +kernel
theorem dX10_isTired_23 : decode cX10_isTired 23 = .ok (.iaload, 1) := by decide +kernel
theorem dX10_isTired_24 : decode cX10_isTired 24 = .ok (.if_icmp .lt 7, 3) := by decide +kernel
theorem dX10_isTired_27 : decode cX10_isTired 27 = .ok (.iconst 1, 1) := by decide +kernel
theorem dX10_isTired_28 : decode cX10_isTired 28 = .ok (.goto 4, 3) := by decide +kernel
theorem dX10_isTired_31 : decode cX10_isTired 31 = .ok (.iconst 0, 1) := by decide +kernel
theorem dX10_isTired_32 : decode cX10_isTired 32 = .ok (.ireturn, 1) := by decide +kernel
set_option maxRecDepth 20000 in
theorem ggX10_triesPerMinute_X10_doesShine : GoodIn wsX10_triesPerMinute wsX10_doesShine := goodIn_ca (goodIn_r _ [10, 11, 12, 13, 9, 14, 1, 15, 16, 17, 18, 19, 20, 21, 22, 23, 24, 25, 26, 27, 28, 29, 30, 31, 32, 33, 34, 35, 36, 37, 38, 39, 40, 41, 42, 43] (by decide +kernel) (by decide +kernel)) (goodIn_sub (fun _ h => List.mem_cons_of_mem _ (List.mem_append_right _ h)) (by decide +kernel))
set_option maxRecDepth 20000 in
theorem gX10_triesPerMinute_X10_doesShine : GoodIn wsX10_triesPerMinute (wsV RX10 339 RX10 yX10_doesShine wsX10_doesShine) := goodIn_app (goodIn_of _ (by decide +kernel)) ggX10_triesPerMinute_X10_doesShine
set_option maxRecDepth 20000 in
theorem ggX10_triesPerMinute_X10_shine : GoodIn wsX10_triesPerMinute wsX10_shine := goodIn_ca (goodIn_r _ [14, 1, 22, 23, 24, 25, 26, 27, 28, 29, 30, 31, 32, 33, 34, 35, 36, 37, 38, 39, 40, 41, 42, 43] (by decide +kernel) (by decide +kernel)) (goodIn_sub (fun _ h => List.mem_cons_of_mem _ (List.mem_append_right _ h)) (by decide +kernel))
set_option maxRecDepth 20000 in
theorem gX10_triesPerMinute_X10_shine : GoodIn wsX10_triesPerMinute (wsV RX10 333 RX10 yX10_shine wsX10_shine) := goodIn_app (goodIn_of _ (by decide +kernel)) ggX10_triesPerMinute_X10_shine
theorem dX10_triesPerMinute_0 : decode cX10_triesPerMinute 0 = .ok (.aload_n 0, 1) := by decide +kernel
theorem dX10_triesPerMinute_1 : decode cX10_triesPerMinute 1 = .ok (.invokevirtual 339, 3) := by decide +kernel
theorem dX10_triesPerMinute_4 : decode cX10_triesPerMinute 4 = .ok (.ifCond .eq 23, 3) := by decide +kernel
theorem dX10_triesPerMinute_7 : decode cX10_triesPerMinute 7 = .ok (.aload_n 0, 1) := by decide +kernel
theorem dX10_triesPerMinute_8 : decode cX10_triesPerMinute 8 = .ok (.getfield 9, 3) := by decide +kernel
theorem dX10_triesPerMinute_11 : decode cX10_triesPerMinute 11 = .ok (.iconst 3, 1) := by decide +kernel
theorem dX10_triesPerMinute_12 : decode cX10_triesPerMinute 12 = .ok (.iaload, 1) := by decide +kernel
theorem dX10_triesPerMinute_13 : decode cX10_triesPerMinute 13 = .ok (.iconst 1, 1) := by decide +kernel
theorem dX10_triesPerMinute_14 : decode cX10_triesPerMinute 14 = .ok (.aload_n 0, 1) := by decide +kernel
theorem dX10_triesPerMinute_15 : decode cX10_triesPerMinute 15 = .ok (.invokevirtual 333, 3) := by decide +kernel
theorem dX10_triesPerMinute_18 : decode cX10_triesPerMinute 18 = .ok (.iconst 4, 1) := by decide +kernel
theorem dX10_triesPerMinute_19 : decode cX10_triesPerMinute 19 = .ok (.idiv, 1) := by decide +kernel
theorem dX10_triesPerMinute_20 : decode cX10_triesPerMinute 20 = .ok (.iadd, 1) := by decide +kernel
theorem dX10_triesPerMinute_21 : decode cX10_triesPerMinute 21 = .ok (.invokestatic 371, 3) := by decide +kernel
theorem dX10_triesPerMinute_24 : decode cX10_triesPerMinute 24 = .ok (.goto 4, 3) := by decide +kernel
theorem dX10_triesPerMinute_27 : decode cX10_triesPerMinute 27 = .ok (.iconst 0, 1) := by decide +kernel
theorem dX10_triesPerMinute_28 : decode cX10_triesPerMinute 28 = .ok (.ireturn, 1) := by decide +kernel
set_option maxRecDepth 20000 in
theorem ggX10_walks_X10_triesPerMinute : GoodIn wsX10_walks wsX10_triesPerMinute := goodIn_ca (goodIn_r _ [6, 1, 7, 8, 9, 10, 11, 12, 13, 5, 14, 15, 16, 17, 18, 19, 20, 21, 22, 23, 24, 25, 66, 67, 68, 69, 70, 71, 72, 73, 74, 75, 76, 77, 78, 79, 80, 81, 82, 83, 84, 85, 86, 87] (by decide +kernel) (by decide +kernel)) (goodIn_sub (fun _ h => List.mem_cons_of_mem _ (List.mem_append_right _ h)) (by decide +kernel))
set_option maxRecDepth 20000 in
theorem gX10_walks_X10_triesPerMinute : GoodIn wsX10_walks (wsV RX10 374 RX10 yX10_triesPerMinute wsX10_triesPerMinute) := goodIn_app (goodIn_of _ (by decide +kernel)) ggX10_walks_X10_triesPerMinute
set_option maxRecDepth 20000 in
theorem ggX10_walks_X10_tries : GoodIn wsX10_walks wsX10_tries := goodIn_ca (goodIn_r _ [29, 1, 30, 31, 32, 5, 33, 34, 35, 36, 37, 38, 39, 40, 41, 42, 43, 44, 45, 46, 47, 48, 49, 50, 51, 52, 53, 54, 55, 56, 57, 58, 59, 60, 61, 66, 67, 68, 69, 70, 71, 72, 73, 74, 75, 76, 77, 78, 79, 80, 81, 82, 83, 84, 85, 86, 87] (by decide +kernel) (by decide +kernel)) (goodIn_sub (fun _ h => List.mem_cons_of_mem _ (List.mem_append_right _ h)) (by decide +kernel))
set_option maxRecDepth 20000 in
theorem gX10_walks_X10_tries : GoodIn wsX10_walks (wsV RX10 377 RX10 yX10_tries wsX10_tries) := goodIn_app (goodIn_of _ (by decide +kernel)) ggX10_walks_X10_tries
set_option maxRecDepth 20000 in
theorem ggX10_walks_X10_isTired : GoodIn wsX10_walks wsX10_isTired := goodIn_ca (goodIn_r _ [65, 1, 66, 67, 68, 69, 70, 71, 72, 73, 74, 75, 76, 77, 78, 79, 80, 81, 82, 83, 84, 85, 86, 87] (by decide +kernel) (by decide +kernel)) (goodIn_sub (fun _ h => List.mem_cons_of_mem _ (List.mem_append_right _ h)) (by decide +kernel))
set_option maxRecDepth 20000 in
theorem gX10_walks_X10_isTired : GoodIn wsX10_walks (wsV RX10 380 RX10 yX10_isTired wsX10_isTired) := goodIn_app (goodIn_of _ (by decide +kernel)) ggX10_walks_X10_isTired
theorem dX10_walks_0 : decode cX10_walks 0 = .ok (.aload_n 0, 1) := by decide +kernel
theorem dX10_walks_1 : decode cX10_walks 1 = .ok (.getfield 9, 3) := by decide +kernel
theorem dX10_walks_4 : decode cX10_walks 4 = .ok (.bipush 11, 2) := by decide +kernel
theorem dX10_walks_6 : decode cX10_walks 6 = .ok (.iaload, 1) := by decide +kernel
theorem dX10_walks_7 : decode cX10_walks 7 = .ok (.ifCond .le 15, 3) := by decide +kernel
theorem dX10_walks_10 : decode cX10_walks 10 = .ok (.aload_n 0, 1) := by decide +kernel
theorem dX10_walks_11 : decode cX10_walks 11 = .ok (.getfield 9, 3) := by decide +kernel
theorem dX10_walks_14 : decode cX10_walks 14 = .ok (.bipush 11, 2) := by decide +kernel
theorem dX10_walks_16 : decode cX10_walks 16 = .ok (.dup2, 1) := by decide +kernel
theorem dX10_walks_17 : decode cX10_walks 17 = .ok (.iaload, 1) := by decide +kernel
theorem dX10_walks_18 : decode cX10_walks 18 = .ok (.iconst 1, 1) := by decide +kernel
theorem dX10_walks_19 : decode cX10_walks 19 = .ok (.isub, 1) := by decide +kernel
theorem dX10_walks_20 : decode cX10_walks 20 = .ok (.iastore, 1) := by decide +kernel
theorem dX10_walks_21 : decode cX10_walks 21 = .ok (.return_, 1) := by decide +kernel
theorem dX10_walks_22 : decode cX10_walks 22 = .ok (.aload_n 0, 1) := by decide +kernel
theorem dX10_walks_23 : decode cX10_walks 23 = .ok (.getfield 9, 3) := by decide +kernel
theorem dX10_walks_26 : decode cX10_walks 26 = .ok (.bipush 8, 2) := by decide +kernel
theorem dX10_walks_28 : decode cX10_walks 28 = .ok (.iaload, 1) := by decide +kernel
theorem dX10_walks_29 : decode cX10_walks 29 = .ok (.iconst (-1), 1) := by decide +kernel
theorem dX10_walks_30 : decode cX10_walks 30 = .ok (.if_icmp .ne 7, 3) := by decide +kernel
theorem dX10_walks_33 : decode cX10_walks 33 = .ok (.iconst 0, 1) := by decide +kernel
theorem dX10_walks_34 : decode cX10_walks 34 = .ok (.goto 7, 3) := by decide +kernel
theorem dX10_walks_37 : decode cX10_walks 37 = .ok (.aload_n 0, 1) := by decide +kernel
theorem dX10_walks_38 : decode cX10_walks 38 = .ok (.invokevirtual 374, 3) := by decide +kernel
theorem dX10_walks_41 : decode cX10_walks 41 = .ok (.istore_n 1, 1) := by decide +kernel
theorem dX10_walks_42 : decode cX10_walks 42 = .ok (.iconst 0, 1) := by decide +kernel
theorem dX10_walks_43 : decode cX10_walks 43 = .ok (.istore_n 2, 1) := by decide +kernel
theorem dX10_walks_44 : decode cX10_walks 44 = .ok (.iload_n 2, 1) := by decide +kernel
theorem dX10_walks_45 : decode cX10_walks 45 = .ok (.iload_n 1, 1) := by decide +kernel
theorem dX10_walks_46 : decode cX10_walks 46 = .ok (.if_icmp .ge 49, 3) := by decide +kernel
theorem dX10_walks_49 : decode cX10_walks 49 = .ok (.aload_n 0, 1) := by decide +kernel
theorem dX10_walks_50 : decode cX10_walks 50 = .ok (.getfield 9, 3) := by decide +kernel
theorem dX10_walks_53 : decode cX10_walks 53 = .ok (.bipush 11, 2) := by decide +kernel
theorem dX10_walks_55 : decode cX10_walks 55 = .ok (.iaload, 1) := by decide +kernel
theorem dX10_walks_56 : decode cX10_walks 56 = .ok (.ifCond .ne 39, 3) := by decide +kernel
theorem dX10_walks_59 : decode cX10_walks 59 = .ok (.aload_n 0, 1) := by decide +kernel
theorem dX10_walks_60 : decode cX10_walks 60 = .ok (.invokevirtual 377, 3) := by decide +kernel
theorem dX10_walks_63 : decode cX10_walks 63 = .ok (.aload_n 0, 1) := by decide +kernel
theorem dX10_walks_64 : decode cX10_walks 64 = .ok (.invokevirtual 380, 3) := by decide +kernel
theorem dX10_walks_67 : decode cX10_walks 67 = .ok (.ifCond .ne 6, 3) := by decide +kernel
theorem dX10_walks_70 : decode cX10_walks 70 = .ok (.goto 19, 3) := by decide +kernel
theorem dX10_walks_73 : decode cX10_walks 73 = .ok (.aload_n 0, 1) := by decide +kernel
theorem dX10_walks_74 : decode cX10_walks 74 = .ok (.getfield 9, 3) := by decide +kernel
theorem dX10_walks_77 : decode cX10_walks 77 = .ok (.bipush 11, 2) := by decide +kernel
theorem dX10_walks_79 : decode cX10_walks 79 = .ok (.iconst 1, 1) := by decide +kernel
theorem dX10_walks_80 : decode cX10_walks 80 = .ok (.iastore, 1) := by decide +kernel
theorem dX10_walks_81 : decode cX10_walks 81 = .ok (.aload_n 0, 1) := by decide +kernel
theorem dX10_walks_82 : decode cX10_walks 82 = .ok (.getfield 9, 3) := by decide +kernel
theorem dX10_walks_85 : decode cX10_walks 85 = .ok (.bipush 22, 2) := by decide +kernel
theorem dX10_walks_87 : decode cX10_walks 87 = .ok (.iconst 0, 1) := by decide +kernel
theorem dX10_walks_88 : decode cX10_walks 88 = .ok (.iastore, 1) := by decide +kernel
theorem dX10_walks_89 : decode cX10_walks 89 = .ok (.iinc 2 1, 3) := by decide +kernel
theorem dX10_walks_92 : decode cX10_walks 92 = .ok (.goto (-48), 3) := by decide +kernel
theorem dX10_walks_95 : decode cX10_walks 95 = .ok (.return_, 1) := by decide +kernel
set_option maxRecDepth 20000 in
theorem ggX10_dries_X10_tiles : GoodIn wsX10_dries wsX10_tiles := goodIn_ca (goodIn_r _ [10, 1, 11, 12, 13, 14, 15, 16, 17, 18, 19, 20, 21, 22, 23, 24, 25, 26, 27, 28, 29, 30, 31, 32] (by decide +kernel) (by decide +kernel)) (goodIn_sub (fun _ h => List.mem_cons_of_mem _ (List.mem_append_right _ h)) (by decide +kernel))
set_option maxRecDepth 20000 in
theorem gX10_dries_X10_tiles : GoodIn wsX10_dries (wsV RX10 136 RX10 yX10_tiles wsX10_tiles) := goodIn_app (goodIn_of _ (by decide +kernel)) ggX10_dries_X10_tiles
theorem dX10_dries_0 : decode cX10_dries 0 = .ok (.iconst 0, 1) := by decide +kernel
theorem dX10_dries_1 : decode cX10_dries 1 = .ok (.istore_n 1, 1) := by decide +kernel
theorem dX10_dries_2 : decode cX10_dries 2 = .ok (.iload_n 1, 1) := by decide +kernel
theorem dX10_dries_3 : decode cX10_dries 3 = .ok (.aload_n 0, 1) := by decide +kernel
theorem dX10_dries_4 : decode cX10_dries 4 = .ok (.invokevirtual 136, 3) := by decide +kernel
theorem dX10_dries_7 : decode cX10_dries 7 = .ok (.if_icmp .ge 46, 3) := by decide +kernel
theorem dX10_dries_10 : decode cX10_dries 10 = .ok (.aload_n 0, 1) := by decide +kernel
theorem dX10_dries_11 : decode cX10_dries 11 = .ok (.getfield 9, 3) := by decide +kernel
theorem dX10_dries_14 : decode cX10_dries 14 = .ok (.sipush 244, 3) := by decide +kernel
theorem dX10_dries_17 : decode cX10_dries 17 = .ok (.iload_n 1, 1) := by decide +kernel
theorem dX10_dries_18 : decode cX10_dries 18 = .ok (.iadd, 1) := by decide +kernel
theorem dX10_dries_19 : decode cX10_dries 19 = .ok (.iconst 0, 1) := by decide +kernel
theorem dX10_dries_20 : decode cX10_dries 20 = .ok (.aload_n 0, 1) := by decide +kernel
theorem dX10_dries_21 : decode cX10_dries 21 = .ok (.getfield 9, 3) := by decide +kernel
theorem dX10_dries_24 : decode cX10_dries 24 = .ok (.sipush 244, 3) := by decide +kernel
theorem dX10_dries_27 : decode cX10_dries 27 = .ok (.iload_n 1, 1) := by decide +kernel
theorem dX10_dries_28 : decode cX10_dries 28 = .ok (.iadd, 1) := by decide +kernel
theorem dX10_dries_29 : decode cX10_dries 29 = .ok (.iaload, 1) := by decide +kernel
theorem dX10_dries_30 : decode cX10_dries 30 = .ok (.iconst 1, 1) := by decide +kernel
theorem dX10_dries_31 : decode cX10_dries 31 = .ok (.isub, 1) := by decide +kernel
theorem dX10_dries_32 : decode cX10_dries 32 = .ok (.aload_n 0, 1) := by decide +kernel
theorem dX10_dries_33 : decode cX10_dries 33 = .ok (.getfield 9, 3) := by decide +kernel
theorem dX10_dries_36 : decode cX10_dries 36 = .ok (.sipush 164, 3) := by decide +kernel
theorem dX10_dries_39 : decode cX10_dries 39 = .ok (.iload_n 1, 1) := by decide +kernel
theorem dX10_dries_40 : decode cX10_dries 40 = .ok (.iadd, 1) := by decide +kernel
theorem dX10_dries_41 : decode cX10_dries 41 = .ok (.iaload, 1) := by decide +kernel
theorem dX10_dries_42 : decode cX10_dries 42 = .ok (.isub, 1) := by decide +kernel
theorem dX10_dries_43 : decode cX10_dries 43 = .ok (.invokestatic 383, 3) := by decide +kernel
theorem dX10_dries_46 : decode cX10_dries 46 = .ok (.iastore, 1) := by decide +kernel
theorem dX10_dries_47 : decode cX10_dries 47 = .ok (.iinc 1 1, 3) := by decide +kernel
theorem dX10_dries_50 : decode cX10_dries 50 = .ok (.goto (-48), 3) := by decide +kernel
theorem dX10_dries_53 : decode cX10_dries 53 = .ok (.return_, 1) := by decide +kernel
theorem dX10_blows_0 : decode cX10_blows 0 = .ok (.iconst 0, 1) := by decide +kernel
theorem dX10_blows_1 : decode cX10_blows 1 = .ok (.istore_n 1, 1) := by decide +kernel
theorem dX10_blows_2 : decode cX10_blows 2 = .ok (.iload_n 1, 1) := by decide +kernel
theorem dX10_blows_3 : decode cX10_blows 3 = .ok (.aload_n 0, 1) := by decide +kernel
theorem dX10_blows_4 : decode cX10_blows 4 = .ok (.getfield 9, 3) := by decide +kernel
theorem dX10_blows_7 : decode cX10_blows 7 = .ok (.iconst 1, 1) := by decide +kernel
theorem dX10_blows_8 : decode cX10_blows 8 = .ok (.iaload, 1) := by decide +kernel
theorem dX10_blows_9 : decode cX10_blows 9 = .ok (.if_icmp .ge 55, 3) := by decide +kernel
theorem dX10_blows_12 : decode cX10_blows 12 = .ok (.aload_n 0, 1) := by decide +kernel
theorem dX10_blows_13 : decode cX10_blows 13 = .ok (.getfield 9, 3) := by decide +kernel
theorem dX10_blows_16 : decode cX10_blows 16 = .ok (.bipush 36, 2) := by decide +kernel
theorem dX10_blows_18 : decode cX10_blows 18 = .ok (.iload_n 1, 1) := by decide +kernel
theorem dX10_blows_19 : decode cX10_blows 19 = .ok (.iadd, 1) := by decide +kernel
theorem dX10_blows_20 : decode cX10_blows 20 = .ok (.iaload, 1) := by decide +kernel
theorem dX10_blows_21 : decode cX10_blows 21 = .ok (.istore_n 2, 1) := by decide +kernel
theorem dX10_blows_22 : decode cX10_blows 22 = .ok (.iload_n 2, 1) := by decide +kernel
theorem dX10_blows_23 : decode cX10_blows 23 = .ok (.ifCond .le 35, 3) := by decide +kernel
theorem dX10_blows_26 : decode cX10_blows 26 = .ok (.aload_n 0, 1) := by decide +kernel
theorem dX10_blows_27 : decode cX10_blows 27 = .ok (.getfield 9, 3) := by decide +kernel
theorem dX10_blows_30 : decode cX10_blows 30 = .ok (.bipush 7, 2) := by decide +kernel
theorem dX10_blows_32 : decode cX10_blows 32 = .ok (.iaload, 1) := by decide +kernel
theorem dX10_blows_33 : decode cX10_blows 33 = .ok (.iload_n 2, 1) := by decide +kernel
theorem dX10_blows_34 : decode cX10_blows 34 = .ok (.irem, 1) := by decide +kernel
theorem dX10_blows_35 : decode cX10_blows 35 = .ok (.ifCond .ne 23, 3) := by decide +kernel
theorem dX10_blows_38 : decode cX10_blows 38 = .ok (.aload_n 0, 1) := by decide +kernel
theorem dX10_blows_39 : decode cX10_blows 39 = .ok (.getfield 9, 3) := by decide +kernel
theorem dX10_blows_42 : decode cX10_blows 42 = .ok (.bipush 26, 2) := by decide +kernel
theorem dX10_blows_44 : decode cX10_blows 44 = .ok (.iload_n 1, 1) := by decide +kernel
theorem dX10_blows_45 : decode cX10_blows 45 = .ok (.iadd, 1) := by decide +kernel
theorem dX10_blows_46 : decode cX10_blows 46 = .ok (.iconst 1, 1) := by decide +kernel
theorem dX10_blows_47 : decode cX10_blows 47 = .ok (.aload_n 0, 1) := by decide +kernel
theorem dX10_blows_48 : decode cX10_blows 48 = .ok (.getfield 9, 3) := by decide +kernel
theorem dX10_blows_51 : decode cX10_blows 51 = .ok (.bipush 26, 2) := by decide +kernel
theorem dX10_blows_53 : decode cX10_blows 53 = .ok (.iload_n 1, 1) := by decide +kernel
theorem dX10_blows_54 : decode cX10_blows 54 = .ok (.iadd, 1) := by decide +kernel
theorem dX10_blows_55 : decode cX10_blows 55 = .ok (.iaload, 1) := by decide +kernel
theorem dX10_blows_56 : decode cX10_blows 56 = .ok (.isub, 1) := by decide +kernel
theorem dX10_blows_57 : decode cX10_blows 57 = .ok (.iastore, 1) := by decide +kernel
theorem dX10_blows_58 : decode cX10_blows 58 = .ok (.iinc 1 1, 3) := by decide +kernel
theorem dX10_blows_61 : decode cX10_blows 61 = .ok (.goto (-59), 3) := by decide +kernel
theorem dX10_blows_64 : decode cX10_blows 64 = .ok (.return_, 1) := by decide +kernel
theorem dX10_placeOf_0 : decode cX10_placeOf 0 = .ok (.iconst 0, 1) := by decide +kernel
theorem dX10_placeOf_1 : decode cX10_placeOf 1 = .ok (.istore_n 2, 1) := by decide +kernel
theorem dX10_placeOf_2 : decode cX10_placeOf 2 = .ok (.iload_n 2, 1) := by decide +kernel
theorem dX10_placeOf_3 : decode cX10_placeOf 3 = .ok (.aload_n 0, 1) := by decide +kernel
theorem dX10_placeOf_4 : decode cX10_placeOf 4 = .ok (.getfield 9, 3) := by decide +kernel
theorem dX10_placeOf_7 : decode cX10_placeOf 7 = .ok (.bipush 19, 2) := by decide +kernel
theorem dX10_placeOf_9 : decode cX10_placeOf 9 = .ok (.iaload, 1) := by decide +kernel
theorem dX10_placeOf_10 : decode cX10_placeOf 10 = .ok (.if_icmp .ge 27, 3) := by decide +kernel
theorem dX10_placeOf_13 : decode cX10_placeOf 13 = .ok (.aload_n 0, 1) := by decide +kernel
theorem dX10_placeOf_14 : decode cX10_placeOf 14 = .ok (.getfield 9, 3) := by decide +kernel
theorem dX10_placeOf_17 : decode cX10_placeOf 17 = .ok (.sipush 404, 3) := by decide +kernel
theorem dX10_placeOf_20 : decode cX10_placeOf 20 = .ok (.iconst 2, 1) := by decide +kernel
theorem dX10_placeOf_21 : decode cX10_placeOf 21 = .ok (.iload_n 2, 1) := by decide +kernel
theorem dX10_placeOf_22 : decode cX10_placeOf 22 = .ok (.imul, 1) := by decide +kernel
theorem dX10_placeOf_23 : decode cX10_placeOf 23 = .ok (.iadd, 1) := by decide +kernel
theorem dX10_placeOf_24 : decode cX10_placeOf 24 = .ok (.iconst 1, 1) := by decide +kernel
theorem dX10_placeOf_25 : decode cX10_placeOf 25 = .ok (.iadd, 1) := by decide +kernel
theorem dX10_placeOf_26 : decode cX10_placeOf 26 = .ok (.iaload, 1) := by decide +kernel
theorem dX10_placeOf_27 : decode cX10_placeOf 27 = .ok (.iload_n 1, 1) := by decide +kernel
theorem dX10_placeOf_28 : decode cX10_placeOf 28 = .ok (.if_icmp .lt 9, 3) := by decide +kernel
theorem dX10_placeOf_31 : decode cX10_placeOf 31 = .ok (.iinc 2 1, 3) := by decide +kernel
theorem dX10_placeOf_34 : decode cX10_placeOf 34 = .ok (.goto (-32), 3) := by decide +kernel
theorem dX10_placeOf_37 : decode cX10_placeOf 37 = .ok (.iload_n 2, 1) := by decide +kernel
theorem dX10_placeOf_38 : decode cX10_placeOf 38 = .ok (.ireturn, 1) := by decide +kernel
set_option maxRecDepth 20000 in
theorem ggX10_keepsRecord_X10_placeOf : GoodIn wsX10_keepsRecord wsX10_placeOf := goodIn_ca (goodIn_r _ [6, 1, 7, 8, 9, 10, 11, 12, 13, 14, 15, 16, 17, 18, 19, 20, 21, 22, 23, 24, 25, 26, 27, 28] (by decide +kernel) (by decide +kernel)) (goodIn_sub (fun _ h => List.mem_cons_of_mem _ (List.mem_append_right _ h)) (by decide +kernel))
set_option maxRecDepth 20000 in
theorem gX10_keepsRecord_X10_placeOf : GoodIn wsX10_keepsRecord (wsV RX10 386 RX10 yX10_placeOf wsX10_placeOf) := goodIn_app (goodIn_of _ (by decide +kernel)) ggX10_keepsRecord_X10_placeOf
theorem dX10_keepsRecord_0 : decode cX10_keepsRecord 0 = .ok (.aload_n 0, 1) := by decide +kernel
theorem dX10_keepsRecord_1 : decode cX10_keepsRecord 1 = .ok (.aload_n 0, 1) := by decide +kernel
theorem dX10_keepsRecord_2 : decode cX10_keepsRecord 2 = .ok (.getfield 9, 3) := by decide +kernel
theorem dX10_keepsRecord_5 : decode cX10_keepsRecord 5 = .ok (.bipush 13, 2) := by decide +kernel
theorem dX10_keepsRecord_7 : decode cX10_keepsRecord 7 = .ok (.iaload, 1) := by decide +kernel
theorem dX10_keepsRecord_8 : decode cX10_keepsRecord 8 = .ok (.invokevirtual 386, 3) := by decide +kernel
theorem dX10_keepsRecord_11 : decode cX10_keepsRecord 11 = .ok (.istore_n 1, 1) := by decide +kernel
theorem dX10_keepsRecord_12 : decode cX10_keepsRecord 12 = .ok (.iload_n 1, 1) := by decide +kernel
theorem dX10_keepsRecord_13 : decode cX10_keepsRecord 13 = .ok (.bipush 10, 2) := by decide +kernel
theorem dX10_keepsRecord_15 : decode cX10_keepsRecord 15 = .ok (.if_icmp .ne 4, 3) := by decide +kernel
theorem dX10_keepsRecord_18 : decode cX10_keepsRecord 18 = .ok (.return_, 1) := by decide +kernel
theorem dX10_keepsRecord_19 : decode cX10_keepsRecord 19 = .ok (.aload_n 0, 1) := by decide +kernel
theorem dX10_keepsRecord_20 : decode cX10_keepsRecord 20 = .ok (.getfield 9, 3) := by decide +kernel
theorem dX10_keepsRecord_23 : decode cX10_keepsRecord 23 = .ok (.bipush 19, 2) := by decide +kernel
theorem dX10_keepsRecord_25 : decode cX10_keepsRecord 25 = .ok (.iaload, 1) := by decide +kernel
theorem dX10_keepsRecord_26 : decode cX10_keepsRecord 26 = .ok (.bipush 10, 2) := by decide +kernel
theorem dX10_keepsRecord_28 : decode cX10_keepsRecord 28 = .ok (.if_icmp .ge 14, 3) := by decide +kernel
theorem dX10_keepsRecord_31 : decode cX10_keepsRecord 31 = .ok (.aload_n 0, 1) := by decide +kernel
theorem dX10_keepsRecord_32 : decode cX10_keepsRecord 32 = .ok (.getfield 9, 3) := by decide +kernel
theorem dX10_keepsRecord_35 : decode cX10_keepsRecord 35 = .ok (.bipush 19, 2) := by decide +kernel
theorem dX10_keepsRecord_37 : decode cX10_keepsRecord 37 = .ok (.dup2, 1) := by decide +kernel
theorem dX10_keepsRecord_38 : decode cX10_keepsRecord 38 = .ok (.iaload, 1) := by decide +kernel
theorem dX10_keepsRecord_39 : decode cX10_keepsRecord 39 = .ok (.iconst 1, 1) := by decide +kernel
theorem dX10_keepsRecord_40 : decode cX10_keepsRecord 40 = .ok (.iadd, 1) := by decide +kernel
theorem dX10_keepsRecord_41 : decode cX10_keepsRecord 41 = .ok (.iastore, 1) := by decide +kernel
theorem dX10_keepsRecord_42 : decode cX10_keepsRecord 42 = .ok (.aload_n 0, 1) := by decide +kernel
theorem dX10_keepsRecord_43 : decode cX10_keepsRecord 43 = .ok (.getfield 9, 3) := by decide +kernel
theorem dX10_keepsRecord_46 : decode cX10_keepsRecord 46 = .ok (.bipush 19, 2) := by decide +kernel
theorem dX10_keepsRecord_48 : decode cX10_keepsRecord 48 = .ok (.iaload, 1) := by decide +kernel
theorem dX10_keepsRecord_49 : decode cX10_keepsRecord 49 = .ok (.iconst 1, 1) := by decide +kernel
theorem dX10_keepsRecord_50 : decode cX10_keepsRecord 50 = .ok (.isub, 1) := by decide +kernel
theorem dX10_keepsRecord_51 : decode cX10_keepsRecord 51 = .ok (.istore_n 2, 1) := by decide +kernel
theorem dX10_keepsRecord_52 : decode cX10_keepsRecord 52 = .ok (.iload_n 2, 1) := by decide +kernel
theorem dX10_keepsRecord_53 : decode cX10_keepsRecord 53 = .ok (.iload_n 1, 1) := by decide +kernel
theorem dX10_keepsRecord_54 : decode cX10_keepsRecord 54 = .ok (.if_icmp .le 63, 3) := by decide +kernel
theorem dX10_keepsRecord_57 : decode cX10_keepsRecord 57 = .ok (.aload_n 0, 1) := by decide +kernel
theorem dX10_keepsRecord_58 : decode cX10_keepsRecord 58 = .ok (.getfield 9, 3) := by decide +kernel
theorem dX10_keepsRecord_61 : decode cX10_keepsRecord 61 = .ok (.sipush 404, 3) := by decide +kernel
theorem dX10_keepsRecord_64 : decode cX10_keepsRecord 64 = .ok (.iconst 2, 1) := by decide +kernel
theorem dX10_keepsRecord_65 : decode cX10_keepsRecord 65 = .ok (.iload_n 2, 1) := by decide +kernel
theorem dX10_keepsRecord_66 : decode cX10_keepsRecord 66 = .ok (.imul, 1) := by decide +kernel
theorem dX10_keepsRecord_67 : decode cX10_keepsRecord 67 = .ok (.iadd, 1) := by decide +kernel
theorem dX10_keepsRecord_68 : decode cX10_keepsRecord 68 = .ok (.aload_n 0, 1) := by decide +kernel
theorem dX10_keepsRecord_69 : decode cX10_keepsRecord 69 = .ok (.getfield 9, 3) := by decide +kernel
theorem dX10_keepsRecord_72 : decode cX10_keepsRecord 72 = .ok (.sipush 404, 3) := by decide +kernel
theorem dX10_keepsRecord_75 : decode cX10_keepsRecord 75 = .ok (.iconst 2, 1) := by decide +kernel
theorem dX10_keepsRecord_76 : decode cX10_keepsRecord 76 = .ok (.iload_n 2, 1) := by decide +kernel
theorem dX10_keepsRecord_77 : decode cX10_keepsRecord 77 = .ok (.imul, 1) := by decide +kernel
theorem dX10_keepsRecord_78 : decode cX10_keepsRecord 78 = .ok (.iadd, 1) := by decide +kernel
theorem dX10_keepsRecord_79 : decode cX10_keepsRecord 79 = .ok (.iconst 2, 1) := by decide +kernel
theorem dX10_keepsRecord_80 : decode cX10_keepsRecord 80 = .ok (.isub, 1) := by decide +kernel
theorem dX10_keepsRecord_81 : decode cX10_keepsRecord 81 = .ok (.iaload, 1) := by decide +kernel
theorem dX10_keepsRecord_82 : decode cX10_keepsRecord 82 = .ok (.iastore, 1) := by decide +kernel
theorem dX10_keepsRecord_83 : decode cX10_keepsRecord 83 = .ok (.aload_n 0, 1) := by decide +kernel
theorem dX10_keepsRecord_84 : decode cX10_keepsRecord 84 = .ok (.getfield 9, 3) := by decide +kernel
theorem dX10_keepsRecord_87 : decode cX10_keepsRecord 87 = .ok (.sipush 404, 3) := by decide +kernel
theorem dX10_keepsRecord_90 : decode cX10_keepsRecord 90 = .ok (.iconst 2, 1) := by decide +kernel
theorem dX10_keepsRecord_91 : decode cX10_keepsRecord 91 = .ok (.iload_n 2, 1) := by decide +kernel
theorem dX10_keepsRecord_92 : decode cX10_keepsRecord 92 = .ok (.imul, 1) := by decide +kernel
theorem dX10_keepsRecord_93 : decode cX10_keepsRecord 93 = .ok (.iadd, 1) := by decide +kernel
theorem dX10_keepsRecord_94 : decode cX10_keepsRecord 94 = .ok (.iconst 1, 1) := by decide +kernel
theorem dX10_keepsRecord_95 : decode cX10_keepsRecord 95 = .ok (.iadd, 1) := by decide +kernel
theorem dX10_keepsRecord_96 : decode cX10_keepsRecord 96 = .ok (.aload_n 0, 1) := by decide +kernel
theorem dX10_keepsRecord_97 : decode cX10_keepsRecord 97 = .ok (.getfield 9, 3) := by decide +kernel
theorem dX10_keepsRecord_100 : decode cX10_keepsRecord 100 = .ok (.sipush 404, 3) := by decide +kernel
theorem dX10_keepsRecord_103 : decode cX10_keepsRecord 103 = .ok (.iconst 2, 1) := by decide +kernel
theorem dX10_keepsRecord_104 : decode cX10_keepsRecord 104 = .ok (.iload_n 2, 1) := by decide +kernel
theorem dX10_keepsRecord_105 : decode cX10_keepsRecord 105 = .ok (.imul, 1) := by decide +kernel
theorem dX10_keepsRecord_106 : decode cX10_keepsRecord 106 = .ok (.iadd, 1) := by decide +kernel
theorem dX10_keepsRecord_107 : decode cX10_keepsRecord 107 = .ok (.iconst 1, 1) := by decide +kernel
theorem dX10_keepsRecord_108 : decode cX10_keepsRecord 108 = .ok (.isub, 1) := by decide +kernel
theorem dX10_keepsRecord_109 : decode cX10_keepsRecord 109 = .ok (.iaload, 1) := by decide +kernel
theorem dX10_keepsRecord_110 : decode cX10_keepsRecord 110 = .ok (.iastore, 1) := by decide +kernel
theorem dX10_keepsRecord_111 : decode cX10_keepsRecord 111 = .ok (.iinc 2 (-1), 3) := by decide +kernel
theorem dX10_keepsRecord_114 : decode cX10_keepsRecord 114 = .ok (.goto (-62), 3) := by decide +kernel
theorem dX10_keepsRecord_117 : decode cX10_keepsRecord 117 = .ok (.aload_n 0, 1) := by decide +kernel
theorem dX10_keepsRecord_118 : decode cX10_keepsRecord 118 = .ok (.getfield 9, 3) := by decide +kernel
theorem dX10_keepsRecord_121 : decode cX10_keepsRecord 121 = .ok (.sipush 404, 3) := by decide +kernel
theorem dX10_keepsRecord_124 : decode cX10_keepsRecord 124 = .ok (.iconst 2, 1) := by decide +kernel
theorem dX10_keepsRecord_125 : decode cX10_keepsRecord 125 = .ok (.iload_n 1, 1) := by decide +kernel
theorem dX10_keepsRecord_126 : decode cX10_keepsRecord 126 = .ok (.imul, 1) := by decide +kernel
theorem dX10_keepsRecord_127 : decode cX10_keepsRecord 127 = .ok (.iadd, 1) := by decide +kernel
theorem dX10_keepsRecord_128 : decode cX10_keepsRecord 128 = .ok (.aload_n 0, 1) := by decide +kernel
theorem dX10_keepsRecord_129 : decode cX10_keepsRecord 129 = .ok (.getfield 9, 3) := by decide +kernel
theorem dX10_keepsRecord_132 : decode cX10_keepsRecord 132 = .ok (.bipush 6, 2) := by decide +kernel
theorem dX10_keepsRecord_134 : decode cX10_keepsRecord 134 = .ok (.iaload, 1) := by decide +kernel
theorem dX10_keepsRecord_135 : decode cX10_keepsRecord 135 = .ok (.iastore, 1) := by decide +kernel
theorem dX10_keepsRecord_136 : decode cX10_keepsRecord 136 = .ok (.aload_n 0, 1) := by decide +kernel
theorem dX10_keepsRecord_137 : decode cX10_keepsRecord 137 = .ok (.getfield 9, 3) := by decide +kernel
theorem dX10_keepsRecord_140 : decode cX10_keepsRecord 140 = .ok (.sipush 404, 3) := by decide +kernel
theorem dX10_keepsRecord_143 : decode cX10_keepsRecord 143 = .ok (.iconst 2, 1) := by decide +kernel
theorem dX10_keepsRecord_144 : decode cX10_keepsRecord 144 = .ok (.iload_n 1, 1) := by decide +kernel
theorem dX10_keepsRecord_145 : decode cX10_keepsRecord 145 = .ok (.imul, 1) := by decide +kernel
theorem dX10_keepsRecord_146 : decode cX10_keepsRecord 146 = .ok (.iadd, 1) := by decide +kernel
theorem dX10_keepsRecord_147 : decode cX10_keepsRecord 147 = .ok (.iconst 1, 1) := by decide +kernel
theorem dX10_keepsRecord_148 : decode cX10_keepsRecord 148 = .ok (.iadd, 1) := by decide +kernel
theorem dX10_keepsRecord_149 : decode cX10_keepsRecord 149 = .ok (.aload_n 0, 1) := by decide +kernel
theorem dX10_keepsRecord_150 : decode cX10_keepsRecord 150 = .ok (.getfield 9, 3) := by decide +kernel
theorem dX10_keepsRecord_153 : decode cX10_keepsRecord 153 = .ok (.bipush 13, 2) := by decide +kernel
theorem dX10_keepsRecord_155 : decode cX10_keepsRecord 155 = .ok (.iaload, 1) := by decide +kernel
theorem dX10_keepsRecord_156 : decode cX10_keepsRecord 156 = .ok (.iastore, 1) := by decide +kernel
theorem dX10_keepsRecord_157 : decode cX10_keepsRecord 157 = .ok (.return_, 1) := by decide +kernel
set_option maxRecDepth 20000 in
theorem ggX10_endsNight_X10_keepsRecord : GoodIn wsX10_endsNight wsX10_keepsRecord := goodIn_ca (goodIn_r _ [6, 1, 7, 8, 9, 5, 10, 11, 12, 13, 14, 15, 16, 17, 18, 19, 20, 21, 22, 23, 24, 25, 26, 27, 28, 29, 30, 31, 32] (by decide +kernel) (by decide +kernel)) (goodIn_sub (fun _ h => List.mem_cons_of_mem _ (List.mem_append_right _ h)) (by decide +kernel))
set_option maxRecDepth 20000 in
theorem gX10_endsNight_X10_keepsRecord : GoodIn wsX10_endsNight (wsV RX10 389 RX10 yX10_keepsRecord wsX10_keepsRecord) := goodIn_app (goodIn_of _ (by decide +kernel)) ggX10_endsNight_X10_keepsRecord
theorem dX10_endsNight_0 : decode cX10_endsNight 0 = .ok (.aload_n 0, 1) := by decide +kernel
theorem dX10_endsNight_1 : decode cX10_endsNight 1 = .ok (.getfield 9, 3) := by decide +kernel
theorem dX10_endsNight_4 : decode cX10_endsNight 4 = .ok (.bipush 13, 2) := by decide +kernel
theorem dX10_endsNight_6 : decode cX10_endsNight 6 = .ok (.iaload, 1) := by decide +kernel
theorem dX10_endsNight_7 : decode cX10_endsNight 7 = .ok (.ifCond .le 7, 3) := by decide +kernel
theorem dX10_endsNight_10 : decode cX10_endsNight 10 = .ok (.aload_n 0, 1) := by decide +kernel
theorem dX10_endsNight_11 : decode cX10_endsNight 11 = .ok (.invokevirtual 389, 3) := by decide +kernel
theorem dX10_endsNight_14 : decode cX10_endsNight 14 = .ok (.aload_n 0, 1) := by decide +kernel
theorem dX10_endsNight_15 : decode cX10_endsNight 15 = .ok (.getfield 9, 3) := by decide +kernel
theorem dX10_endsNight_18 : decode cX10_endsNight 18 = .ok (.bipush 6, 2) := by decide +kernel
theorem dX10_endsNight_20 : decode cX10_endsNight 20 = .ok (.dup2, 1) := by decide +kernel
theorem dX10_endsNight_21 : decode cX10_endsNight 21 = .ok (.iaload, 1) := by decide +kernel
theorem dX10_endsNight_22 : decode cX10_endsNight 22 = .ok (.iconst 1, 1) := by decide +kernel
theorem dX10_endsNight_23 : decode cX10_endsNight 23 = .ok (.iadd, 1) := by decide +kernel
theorem dX10_endsNight_24 : decode cX10_endsNight 24 = .ok (.iastore, 1) := by decide +kernel
theorem dX10_endsNight_25 : decode cX10_endsNight 25 = .ok (.aload_n 0, 1) := by decide +kernel
theorem dX10_endsNight_26 : decode cX10_endsNight 26 = .ok (.getfield 9, 3) := by decide +kernel
theorem dX10_endsNight_29 : decode cX10_endsNight 29 = .ok (.bipush 7, 2) := by decide +kernel
theorem dX10_endsNight_31 : decode cX10_endsNight 31 = .ok (.iconst 0, 1) := by decide +kernel
theorem dX10_endsNight_32 : decode cX10_endsNight 32 = .ok (.iastore, 1) := by decide +kernel
theorem dX10_endsNight_33 : decode cX10_endsNight 33 = .ok (.aload_n 0, 1) := by decide +kernel
theorem dX10_endsNight_34 : decode cX10_endsNight 34 = .ok (.getfield 9, 3) := by decide +kernel
theorem dX10_endsNight_37 : decode cX10_endsNight 37 = .ok (.bipush 13, 2) := by decide +kernel
theorem dX10_endsNight_39 : decode cX10_endsNight 39 = .ok (.iconst 0, 1) := by decide +kernel
theorem dX10_endsNight_40 : decode cX10_endsNight 40 = .ok (.iastore, 1) := by decide +kernel
theorem dX10_endsNight_41 : decode cX10_endsNight 41 = .ok (.return_, 1) := by decide +kernel
set_option maxRecDepth 20000 in
theorem ggX10_nearest_X10_litRow : GoodIn wsX10_nearest wsX10_litRow := goodIn_ca (goodIn_r _ [6, 1, 18, 19, 20, 21, 22, 23, 24, 25, 26, 27, 28, 29, 30, 31, 32, 33, 34, 35, 36, 37, 38, 39] (by decide +kernel) (by decide +kernel)) (goodIn_sub (fun _ h => List.mem_cons_of_mem _ (List.mem_append_right _ h)) (by decide +kernel))
set_option maxRecDepth 20000 in
theorem gX10_nearest_X10_litRow : GoodIn wsX10_nearest (wsV RX10 342 RX10 yX10_litRow wsX10_litRow) := goodIn_app (goodIn_of _ (by decide +kernel)) ggX10_nearest_X10_litRow
set_option maxRecDepth 20000 in
theorem ggX10_nearest_X10_in : GoodIn wsX10_nearest wsX10_in := goodIn_r _ [9] (by decide +kernel) (by decide +kernel)
set_option maxRecDepth 20000 in
theorem gX10_nearest_X10_in : GoodIn wsX10_nearest (va_wsS RX10 65 yX10_in wsX10_in) := goodIn_app (goodIn_of _ (by decide +kernel)) ggX10_nearest_X10_in
set_option maxRecDepth 20000 in
theorem ggX10_nearest_X10_isClosed : GoodIn wsX10_nearest wsX10_isClosed := goodIn_ca (goodIn_r _ [13, 1, 18, 19, 20, 21, 22, 23, 24, 25, 26, 27, 28, 29, 30, 31, 32, 33, 34, 35, 36, 37, 38, 39] (by decide +kernel) (by decide +kernel)) (goodIn_sub (fun _ h => List.mem_cons_of_mem _ (List.mem_append_right _ h)) (by decide +kernel))
set_option maxRecDepth 20000 in
theorem gX10_nearest_X10_isClosed : GoodIn wsX10_nearest (wsV RX10 345 RX10 yX10_isClosed wsX10_isClosed) := goodIn_app (goodIn_of _ (by decide +kernel)) ggX10_nearest_X10_isClosed
set_option maxRecDepth 20000 in
theorem ggX10_nearest_X10_isDry : GoodIn wsX10_nearest wsX10_isDry := goodIn_ca (goodIn_r _ [17, 1, 18, 19, 20, 21, 22, 23, 24, 25, 26, 27, 28, 29, 30, 31, 32, 33, 34, 35, 36, 37, 38, 39] (by decide +kernel) (by decide +kernel)) (goodIn_sub (fun _ h => List.mem_cons_of_mem _ (List.mem_append_right _ h)) (by decide +kernel))
set_option maxRecDepth 20000 in
theorem gX10_nearest_X10_isDry : GoodIn wsX10_nearest (wsV RX10 145 RX10 yX10_isDry wsX10_isDry) := goodIn_app (goodIn_of _ (by decide +kernel)) ggX10_nearest_X10_isDry
theorem dX10_nearest_0 : decode cX10_nearest 0 = .ok (.aload_n 0, 1) := by decide +kernel
theorem dX10_nearest_1 : decode cX10_nearest 1 = .ok (.invokevirtual 342, 3) := by decide +kernel
theorem dX10_nearest_4 : decode cX10_nearest 4 = .ok (.aload_n 0, 1) := by decide +kernel
theorem dX10_nearest_5 : decode cX10_nearest 5 = .ok (.getfield 9, 3) := by decide +kernel
theorem dX10_nearest_8 : decode cX10_nearest 8 = .ok (.iconst 1, 1) := by decide +kernel
theorem dX10_nearest_9 : decode cX10_nearest 9 = .ok (.iaload, 1) := by decide +kernel
theorem dX10_nearest_10 : decode cX10_nearest 10 = .ok (.imul, 1) := by decide +kernel
theorem dX10_nearest_11 : decode cX10_nearest 11 = .ok (.istore_n 1, 1) := by decide +kernel
theorem dX10_nearest_12 : decode cX10_nearest 12 = .ok (.iconst 0, 1) := by decide +kernel
theorem dX10_nearest_13 : decode cX10_nearest 13 = .ok (.istore_n 2, 1) := by decide +kernel
theorem dX10_nearest_14 : decode cX10_nearest 14 = .ok (.iload_n 2, 1) := by decide +kernel
theorem dX10_nearest_15 : decode cX10_nearest 15 = .ok (.aload_n 0, 1) := by decide +kernel
theorem dX10_nearest_16 : decode cX10_nearest 16 = .ok (.getfield 9, 3) := by decide +kernel
theorem dX10_nearest_19 : decode cX10_nearest 19 = .ok (.iconst 1, 1) := by decide +kernel
theorem dX10_nearest_20 : decode cX10_nearest 20 = .ok (.iaload, 1) := by decide +kernel
theorem dX10_nearest_21 : decode cX10_nearest 21 = .ok (.if_icmp .ge 77, 3) := by decide +kernel
theorem dX10_nearest_24 : decode cX10_nearest 24 = .ok (.iconst (-1), 1) := by decide +kernel
theorem dX10_nearest_25 : decode cX10_nearest 25 = .ok (.istore_n 3, 1) := by decide +kernel
theorem dX10_nearest_26 : decode cX10_nearest 26 = .ok (.iload_n 3, 1) := by decide +kernel
theorem dX10_nearest_27 : decode cX10_nearest 27 = .ok (.iconst 1, 1) := by decide +kernel
theorem dX10_nearest_28 : decode cX10_nearest 28 = .ok (.if_icmp .gt 64, 3) := by decide +kernel
theorem dX10_nearest_31 : decode cX10_nearest 31 = .ok (.aload_n 0, 1) := by decide +kernel
theorem dX10_nearest_32 : decode cX10_nearest 32 = .ok (.getfield 9, 3) := by decide +kernel
theorem dX10_nearest_35 : decode cX10_nearest 35 = .ok (.bipush 9, 2) := by decide +kernel
theorem dX10_nearest_37 : decode cX10_nearest 37 = .ok (.iaload, 1) := by decide +kernel
theorem dX10_nearest_38 : decode cX10_nearest 38 = .ok (.iload_n 3, 1) := by decide +kernel
theorem dX10_nearest_39 : decode cX10_nearest 39 = .ok (.iload_n 2, 1) := by decide +kernel
theorem dX10_nearest_40 : decode cX10_nearest 40 = .ok (.imul, 1) := by decide +kernel
theorem dX10_nearest_41 : decode cX10_nearest 41 = .ok (.iadd, 1) := by decide +kernel
theorem dX10_nearest_42 : decode cX10_nearest 42 = .ok (.istore 4, 2) := by decide +kernel
theorem dX10_nearest_44 : decode cX10_nearest 44 = .ok (.iload 4, 2) := by decide +kernel
theorem dX10_nearest_46 : decode cX10_nearest 46 = .ok (.iconst 0, 1) := by decide +kernel
theorem dX10_nearest_47 : decode cX10_nearest 47 = .ok (.aload_n 0, 1) := by decide +kernel
theorem dX10_nearest_48 : decode cX10_nearest 48 = .ok (.getfield 9, 3) := by decide +kernel
theorem dX10_nearest_51 : decode cX10_nearest 51 = .ok (.iconst 1, 1) := by decide +kernel
theorem dX10_nearest_52 : decode cX10_nearest 52 = .ok (.iaload, 1) := by decide +kernel
theorem dX10_nearest_53 : decode cX10_nearest 53 = .ok (.iconst 1, 1) := by decide +kernel
theorem dX10_nearest_54 : decode cX10_nearest 54 = .ok (.isub, 1) := by decide +kernel
theorem dX10_nearest_55 : decode cX10_nearest 55 = .ok (.invokestatic 65, 3) := by decide +kernel
theorem dX10_nearest_58 : decode cX10_nearest 58 = .ok (.ifCond .eq 28, 3) := by decide +kernel
theorem dX10_nearest_61 : decode cX10_nearest 61 = .ok (.aload_n 0, 1) := by decide +kernel
theorem dX10_nearest_62 : decode cX10_nearest 62 = .ok (.iload 4, 2) := by decide +kernel
theorem dX10_nearest_64 : decode cX10_nearest 64 = .ok (.invokevirtual 345, 3) := by decide +kernel
theorem dX10_nearest_67 : decode cX10_nearest 67 = .ok (.ifCond .ne 19, 3) := by decide +kernel
theorem dX10_nearest_70 : decode cX10_nearest 70 = .ok (.aload_n 0, 1) := by decide +kernel
theorem dX10_nearest_71 : decode cX10_nearest 71 = .ok (.iload_n 1, 1) := by decide +kernel
theorem dX10_nearest_72 : decode cX10_nearest 72 = .ok (.iload 4, 2) := by decide +kernel
theorem dX10_nearest_74 : decode cX10_nearest 74 = .ok (.iadd, 1) := by decide +kernel
theorem dX10_nearest_75 : decode cX10_nearest 75 = .ok (.invokevirtual 145, 3) := by decide +kernel
theorem dX10_nearest_78 : decode cX10_nearest 78 = .ok (.ifCond .eq 8, 3) := by decide +kernel
theorem dX10_nearest_81 : decode cX10_nearest 81 = .ok (.iload_n 1, 1) := by decide +kernel
theorem dX10_nearest_82 : decode cX10_nearest 82 = .ok (.iload 4, 2) := by decide +kernel
theorem dX10_nearest_84 : decode cX10_nearest 84 = .ok (.iadd, 1) := by decide +kernel
theorem dX10_nearest_85 : decode cX10_nearest 85 = .ok (.ireturn, 1) := by decide +kernel
theorem dX10_nearest_86 : decode cX10_nearest 86 = .ok (.iinc 3 2, 3) := by decide +kernel
theorem dX10_nearest_89 : decode cX10_nearest 89 = .ok (.goto (-63), 3) := by decide +kernel
theorem dX10_nearest_92 : decode cX10_nearest 92 = .ok (.iinc 2 1, 3) := by decide +kernel
theorem dX10_nearest_95 : decode cX10_nearest 95 = .ok (.goto (-81), 3) := by decide +kernel
theorem dX10_nearest_98 : decode cX10_nearest 98 = .ok (.iconst (-1), 1) := by decide +kernel
theorem dX10_nearest_99 : decode cX10_nearest 99 = .ok (.ireturn, 1) := by decide +kernel
set_option maxRecDepth 20000 in
theorem ggX10_relocates_X10_doesShine : GoodIn wsX10_relocates wsX10_doesShine := goodIn_ca (goodIn_r _ [6, 7, 8, 9, 5, 10, 1, 11, 12, 13, 14, 15, 16, 17, 38, 39, 40, 41, 42, 43, 44, 45, 46, 47, 48, 49, 50, 51, 52, 53, 54, 55, 56, 57, 58, 59] (by decide +kernel) (by decide +kernel)) (goodIn_sub (fun _ h => List.mem_cons_of_mem _ (List.mem_append_right _ h)) (by decide +kernel))
set_option maxRecDepth 20000 in
theorem gX10_relocates_X10_doesShine : GoodIn wsX10_relocates (wsV RX10 339 RX10 yX10_doesShine wsX10_doesShine) := goodIn_app (goodIn_of _ (by decide +kernel)) ggX10_relocates_X10_doesShine
set_option maxRecDepth 20000 in
theorem ggX10_relocates_X10_shinesOn : GoodIn wsX10_relocates wsX10_shinesOn := goodIn_ca (goodIn_r _ [21, 1, 2, 3, 4, 5, 6, 7, 8, 9, 10, 11, 12, 13, 14, 15, 16, 17, 22, 23, 24, 25, 26, 27, 28, 29, 38, 39, 40, 41, 42, 43, 44, 45, 46, 47, 48, 49, 50, 51, 52, 53, 54, 55, 56, 57, 58, 59] (by decide +kernel) (by decide +kernel)) (goodIn_sub (fun _ h => List.mem_cons_of_mem _ (List.mem_append_right _ h)) (by decide +kernel))
set_option maxRecDepth 20000 in
theorem gX10_relocates_X10_shinesOn : GoodIn wsX10_relocates (wsV RX10 392 RX10 yX10_shinesOn wsX10_shinesOn) := goodIn_app (goodIn_of _ (by decide +kernel)) ggX10_relocates_X10_shinesOn
set_option maxRecDepth 20000 in
theorem ggX10_relocates_X10_nearest : GoodIn wsX10_relocates wsX10_nearest := goodIn_ca (goodIn_r _ [33, 1, 22, 23, 24, 5, 25, 15, 16, 17, 26, 27, 28, 29, 34, 35, 36, 37, 38, 39, 40, 41, 42, 43, 44, 45, 46, 47, 48, 49, 50, 51, 52, 53, 54, 55, 56, 57, 58, 59] (by decide +kernel) (by decide +kernel)) (goodIn_sub (fun _ h => List.mem_cons_of_mem _ (List.mem_append_right _ h)) (by decide +kernel))
set_option maxRecDepth 20000 in
theorem gX10_relocates_X10_nearest : GoodIn wsX10_relocates (wsV RX10 395 RX10 yX10_nearest wsX10_nearest) := goodIn_app (goodIn_of _ (by decide +kernel)) ggX10_relocates_X10_nearest
theorem dX10_relocates_0 : decode cX10_relocates 0 = .ok (.aload_n 0, 1) := by decide +kernel
theorem dX10_relocates_1 : decode cX10_relocates 1 = .ok (.invokevirtual 339, 3) := by decide +kernel
theorem dX10_relocates_4 : decode cX10_relocates 4 = .ok (.ifCond .eq 28, 3) := by decide +kernel
theorem dX10_relocates_7 : decode cX10_relocates 7 = .ok (.aload_n 0, 1) := by decide +kernel
theorem dX10_relocates_8 : decode cX10_relocates 8 = .ok (.getfield 9, 3) := by decide +kernel
theorem dX10_relocates_11 : decode cX10_relocates 11 = .ok (.bipush 8, 2) := by decide +kernel
theorem dX10_relocates_13 : decode cX10_relocates 13 = .ok (.iaload, 1) := by decide +kernel
theorem dX10_relocates_14 : decode cX10_relocates 14 = .ok (.iconst (-1), 1) := by decide +kernel
theorem dX10_relocates_15 : decode cX10_relocates 15 = .ok (.if_icmp .eq 18, 3) := by decide +kernel
theorem dX10_relocates_18 : decode cX10_relocates 18 = .ok (.aload_n 0, 1) := by decide +kernel
theorem dX10_relocates_19 : decode cX10_relocates 19 = .ok (.aload_n 0, 1) := by decide +kernel
theorem dX10_relocates_20 : decode cX10_relocates 20 = .ok (.getfield 9, 3) := by decide +kernel
theorem dX10_relocates_23 : decode cX10_relocates 23 = .ok (.bipush 8, 2) := by decide +kernel
theorem dX10_relocates_25 : decode cX10_relocates 25 = .ok (.iaload, 1) := by decide +kernel
theorem dX10_relocates_26 : decode cX10_relocates 26 = .ok (.invokevirtual 392, 3) := by decide +kernel
theorem dX10_relocates_29 : decode cX10_relocates 29 = .ok (.ifCond .eq 4, 3) := by decide +kernel
theorem dX10_relocates_32 : decode cX10_relocates 32 = .ok (.return_, 1) := by decide +kernel
theorem dX10_relocates_33 : decode cX10_relocates 33 = .ok (.aload_n 0, 1) := by decide +kernel
theorem dX10_relocates_34 : decode cX10_relocates 34 = .ok (.getfield 9, 3) := by decide +kernel
theorem dX10_relocates_37 : decode cX10_relocates 37 = .ok (.bipush 8, 2) := by decide +kernel
theorem dX10_relocates_39 : decode cX10_relocates 39 = .ok (.aload_n 0, 1) := by decide +kernel
theorem dX10_relocates_40 : decode cX10_relocates 40 = .ok (.invokevirtual 395, 3) := by decide +kernel
theorem dX10_relocates_43 : decode cX10_relocates 43 = .ok (.iastore, 1) := by decide +kernel
theorem dX10_relocates_44 : decode cX10_relocates 44 = .ok (.aload_n 0, 1) := by decide +kernel
theorem dX10_relocates_45 : decode cX10_relocates 45 = .ok (.getfield 9, 3) := by decide +kernel
theorem dX10_relocates_48 : decode cX10_relocates 48 = .ok (.bipush 8, 2) := by decide +kernel
theorem dX10_relocates_50 : decode cX10_relocates 50 = .ok (.iaload, 1) := by decide +kernel
theorem dX10_relocates_51 : decode cX10_relocates 51 = .ok (.iconst (-1), 1) := by decide +kernel
theorem dX10_relocates_52 : decode cX10_relocates 52 = .ok (.if_icmp .eq 24, 3) := by decide +kernel
theorem dX10_relocates_55 : decode cX10_relocates 55 = .ok (.aload_n 0, 1) := by decide +kernel
theorem dX10_relocates_56 : decode cX10_relocates 56 = .ok (.getfield 9, 3) := by decide +kernel
theorem dX10_relocates_59 : decode cX10_relocates 59 = .ok (.bipush 9, 2) := by decide +kernel
theorem dX10_relocates_61 : decode cX10_relocates 61 = .ok (.aload_n 0, 1) := by decide +kernel
theorem dX10_relocates_62 : decode cX10_relocates 62 = .ok (.getfield 9, 3) := by decide +kernel
theorem dX10_relocates_65 : decode cX10_relocates 65 = .ok (.bipush 8, 2) := by decide +kernel
theorem dX10_relocates_67 : decode cX10_relocates 67 = .ok (.iaload, 1) := by decide +kernel
theorem dX10_relocates_68 : decode cX10_relocates 68 = .ok (.aload_n 0, 1) := by decide +kernel
theorem dX10_relocates_69 : decode cX10_relocates 69 = .ok (.getfield 9, 3) := by decide +kernel
theorem dX10_relocates_72 : decode cX10_relocates 72 = .ok (.iconst 1, 1) := by decide +kernel
theorem dX10_relocates_73 : decode cX10_relocates 73 = .ok (.iaload, 1) := by decide +kernel
theorem dX10_relocates_74 : decode cX10_relocates 74 = .ok (.irem, 1) := by decide +kernel
theorem dX10_relocates_75 : decode cX10_relocates 75 = .ok (.iastore, 1) := by decide +kernel
theorem dX10_relocates_76 : decode cX10_relocates 76 = .ok (.return_, 1) := by decide +kernel
set_option maxRecDepth 20000 in
theorem ggX10_passes_X10_catMoves : GoodIn wsX10_passes wsX10_catMoves := goodIn_ca (goodIn_r _ [6, 1, 7, 8, 9, 5, 10, 11, 12, 13, 14, 15, 16, 17, 18, 19, 20, 21, 22, 23, 24, 25, 26, 27, 28, 29, 30, 31, 32, 33, 131, 132, 133, 134, 135, 136, 137, 138, 139, 140, 141, 142, 143, 144, 145, 146, 147, 148, 149, 150, 151, 152] (by decide +kernel) (by decide +kernel)) (goodIn_sub (fun _ h => List.mem_cons_of_mem _ (List.mem_append_right _ h)) (by decide +kernel))
set_option maxRecDepth 20000 in
theorem gX10_passes_X10_catMoves : GoodIn wsX10_passes (wsV RX10 398 RX10 yX10_catMoves wsX10_catMoves) := goodIn_app (goodIn_of _ (by decide +kernel)) ggX10_passes_X10_catMoves
set_option maxRecDepth 20000 in
theorem ggX10_passes_X10_walks : GoodIn wsX10_passes wsX10_walks := goodIn_ca (goodIn_r _ [37, 1, 38, 39, 40, 5, 41, 42, 43, 29, 44, 45, 46, 47, 48, 49, 50, 51, 52, 53, 54, 55, 56, 57, 58, 59, 60, 61, 62, 63, 64, 65, 66, 67, 68, 69, 70, 71, 7, 8, 9, 10, 11, 12, 13, 14, 72, 73, 74, 75, 15, 16, 17, 18, 76, 77, 78, 79, 80, 81, 82, 83, 84, 85, 86, 87, 131, 132, 133, 134, 135, 136, 137, 138, 139, 140, 141, 142, 143, 144, 145, 146, 147, 148, 149, 150, 151, 152] (by decide +kernel) (by decide +kernel)) (goodIn_sub (fun _ h => List.mem_cons_of_mem _ (List.mem_append_right _ h)) (by decide +kernel))
set_option maxRecDepth 20000 in
theorem gX10_passes_X10_walks : GoodIn wsX10_passes (wsV RX10 401 RX10 yX10_walks wsX10_walks) := goodIn_app (goodIn_of _ (by decide +kernel)) ggX10_passes_X10_walks
set_option maxRecDepth 20000 in
theorem ggX10_passes_X10_dries : GoodIn wsX10_passes wsX10_dries := goodIn_ca (goodIn_r _ [91, 1, 92, 93, 29, 94, 11, 12, 13, 5, 14, 131, 132, 133, 134, 135, 136, 137, 138, 139, 140, 141, 142, 143, 144, 145, 146, 147, 148, 149, 150, 151, 152] (by decide +kernel) (by decide +kernel)) (goodIn_sub (fun _ h => List.mem_cons_of_mem _ (List.mem_append_right _ h)) (by decide +kernel))
set_option maxRecDepth 20000 in
theorem gX10_passes_X10_dries : GoodIn wsX10_passes (wsV RX10 404 RX10 yX10_dries wsX10_dries) := goodIn_app (goodIn_of _ (by decide +kernel)) ggX10_passes_X10_dries
set_option maxRecDepth 20000 in
theorem ggX10_passes_X10_isOver : GoodIn wsX10_passes wsX10_isOver := goodIn_ca (goodIn_r _ [98, 1, 131, 132, 133, 134, 135, 136, 137, 138, 139, 140, 141, 142, 143, 144, 145, 146, 147, 148, 149, 150, 151, 152] (by decide +kernel) (by decide +kernel)) (goodIn_sub (fun _ h => List.mem_cons_of_mem _ (List.mem_append_right _ h)) (by decide +kernel))
set_option maxRecDepth 20000 in
theorem gX10_passes_X10_isOver : GoodIn wsX10_passes (wsV RX10 407 RX10 yX10_isOver wsX10_isOver) := goodIn_app (goodIn_of _ (by decide +kernel)) ggX10_passes_X10_isOver
set_option maxRecDepth 20000 in
theorem ggX10_passes_X10_endsNight : GoodIn wsX10_passes wsX10_endsNight := goodIn_ca (goodIn_r _ [102, 1, 103, 104, 105, 5, 106, 107, 108, 109, 110, 131, 132, 133, 134, 135, 136, 137, 138, 139, 140, 141, 142, 143, 144, 145, 146, 147, 148, 149, 150, 151, 152] (by decide +kernel) (by decide +kernel)) (goodIn_sub (fun _ h => List.mem_cons_of_mem _ (List.mem_append_right _ h)) (by decide +kernel))
set_option maxRecDepth 20000 in
theorem gX10_passes_X10_endsNight : GoodIn wsX10_passes (wsV RX10 410 RX10 yX10_endsNight wsX10_endsNight) := goodIn_app (goodIn_of _ (by decide +kernel)) ggX10_passes_X10_endsNight
set_option maxRecDepth 20000 in
theorem ggX10_passes_X10_blows : GoodIn wsX10_passes wsX10_blows := goodIn_ca (goodIn_r _ [114, 1, 131, 132, 133, 134, 135, 136, 137, 138, 139, 140, 141, 142, 143, 144, 145, 146, 147, 148, 149, 150, 151, 152] (by decide +kernel) (by decide +kernel)) (goodIn_sub (fun _ h => List.mem_cons_of_mem _ (List.mem_append_right _ h)) (by decide +kernel))
set_option maxRecDepth 20000 in
theorem gX10_passes_X10_blows : GoodIn wsX10_passes (wsV RX10 413 RX10 yX10_blows wsX10_blows) := goodIn_app (goodIn_of _ (by decide +kernel)) ggX10_passes_X10_blows
set_option maxRecDepth 20000 in
theorem ggX10_passes_X10_relocates : GoodIn wsX10_passes wsX10_relocates := goodIn_ca (goodIn_r _ [118, 1, 45, 46, 47, 5, 48, 49, 50, 51, 52, 53, 54, 55, 56, 57, 58, 59, 119, 120, 121, 122, 123, 124, 125, 126, 72, 73, 74, 75, 127, 128, 129, 130, 15, 16, 17, 18, 131, 132, 133, 134, 135, 136, 137, 138, 139, 140, 141, 142, 143, 144, 145, 146, 147, 148, 149, 150, 151, 152] (by decide +kernel) (by decide +kernel)) (goodIn_sub (fun _ h => List.mem_cons_of_mem _ (List.mem_append_right _ h)) (by decide +kernel))
set_option maxRecDepth 20000 in
theorem gX10_passes_X10_relocates : GoodIn wsX10_passes (wsV RX10 257 RX10 yX10_relocates wsX10_relocates) := goodIn_app (goodIn_of _ (by decide +kernel)) ggX10_passes_X10_relocates
theorem dX10_passes_0 : decode cX10_passes 0 = .ok (.aload_n 0, 1) := by decide +kernel
theorem dX10_passes_1 : decode cX10_passes 1 = .ok (.invokevirtual 398, 3) := by decide +kernel
theorem dX10_passes_4 : decode cX10_passes 4 = .ok (.aload_n 0, 1) := by decide +kernel
theorem dX10_passes_5 : decode cX10_passes 5 = .ok (.invokevirtual 401, 3) := by decide +kernel
theorem dX10_passes_8 : decode cX10_passes 8 = .ok (.aload_n 0, 1) := by decide +kernel
theorem dX10_passes_9 : decode cX10_passes 9 = .ok (.invokevirtual 404, 3) := by decide +kernel
theorem dX10_passes_12 : decode cX10_passes 12 = .ok (.aload_n 0, 1) := by decide +kernel
theorem dX10_passes_13 : decode cX10_passes 13 = .ok (.getfield 9, 3) := by decide +kernel
theorem dX10_passes_16 : decode cX10_passes 16 = .ok (.bipush 7, 2) := by decide +kernel
theorem dX10_passes_18 : decode cX10_passes 18 = .ok (.dup2, 1) := by decide +kernel
theorem dX10_passes_19 : decode cX10_passes 19 = .ok (.iaload, 1) := by decide +kernel
theorem dX10_passes_20 : decode cX10_passes 20 = .ok (.iconst 1, 1) := by decide +kernel
theorem dX10_passes_21 : decode cX10_passes 21 = .ok (.iadd, 1) := by decide +kernel
theorem dX10_passes_22 : decode cX10_passes 22 = .ok (.iastore, 1) := by decide +kernel
theorem dX10_passes_23 : decode cX10_passes 23 = .ok (.aload_n 0, 1) := by decide +kernel
theorem dX10_passes_24 : decode cX10_passes 24 = .ok (.invokevirtual 407, 3) := by decide +kernel
theorem dX10_passes_27 : decode cX10_passes 27 = .ok (.ifCond .eq 7, 3) := by decide +kernel
theorem dX10_passes_30 : decode cX10_passes 30 = .ok (.aload_n 0, 1) := by decide +kernel
theorem dX10_passes_31 : decode cX10_passes 31 = .ok (.invokevirtual 410, 3) := by decide +kernel
theorem dX10_passes_34 : decode cX10_passes 34 = .ok (.aload_n 0, 1) := by decide +kernel
theorem dX10_passes_35 : decode cX10_passes 35 = .ok (.invokevirtual 413, 3) := by decide +kernel
theorem dX10_passes_38 : decode cX10_passes 38 = .ok (.aload_n 0, 1) := by decide +kernel
theorem dX10_passes_39 : decode cX10_passes 39 = .ok (.invokevirtual 257, 3) := by decide +kernel
theorem dX10_passes_42 : decode cX10_passes 42 = .ok (.return_, 1) := by decide +kernel
set_option maxRecDepth 20000 in
theorem ggX10_passesMany_X10_passes : GoodIn wsX10_passesMany wsX10_passes := goodIn_ca (goodIn_r _ [5, 6, 7, 8, 9, 4, 10, 11, 12, 13, 14, 15, 16, 17, 18, 19, 20, 21, 22, 23, 24, 25, 26, 27, 28, 29, 30, 31, 32, 33, 34, 35, 36, 37, 38, 39, 40, 41, 42, 43, 44, 45, 46, 47, 48, 49, 50, 51, 52, 53, 54, 55, 56, 57, 58, 59, 60, 61, 62, 63, 64, 65, 66, 67, 68, 69, 70, 71, 72, 73, 74, 75, 76, 77, 78, 79, 80, 81, 82, 83, 84, 85, 86, 87, 88, 89, 90, 91, 92, 93, 94, 95, 96, 97, 98, 99, 100, 101, 102, 103, 104, 105, 106, 107, 108, 109, 110, 111, 112, 113, 114, 115, 116, 117, 118, 119, 120, 121, 122, 123, 124, 125, 126, 127, 128, 129, 130, 131, 132, 133, 134, 135, 136, 137, 138, 139, 140, 141, 142, 143, 144, 145, 146, 147, 148, 149, 150, 151, 152, 153, 154, 155, 156] (by decide +kernel) (by decide +kernel)) (goodIn_sub (fun _ h => List.mem_cons_of_mem _ (List.mem_append_right _ h)) (by decide +kernel))
set_option maxRecDepth 20000 in
theorem gX10_passesMany_X10_passes : GoodIn wsX10_passesMany (wsV RX10 416 RX10 yX10_passes wsX10_passes) := goodIn_app (goodIn_of _ (by decide +kernel)) ggX10_passesMany_X10_passes
theorem dX10_passesMany_0 : decode cX10_passesMany 0 = .ok (.iconst 0, 1) := by decide +kernel
theorem dX10_passesMany_1 : decode cX10_passesMany 1 = .ok (.istore_n 2, 1) := by decide +kernel
theorem dX10_passesMany_2 : decode cX10_passesMany 2 = .ok (.iload_n 2, 1) := by decide +kernel
theorem dX10_passesMany_3 : decode cX10_passesMany 3 = .ok (.iload_n 1, 1) := by decide +kernel
theorem dX10_passesMany_4 : decode cX10_passesMany 4 = .ok (.if_icmp .ge 13, 3) := by decide +kernel
theorem dX10_passesMany_7 : decode cX10_passesMany 7 = .ok (.aload_n 0, 1) := by decide +kernel
theorem dX10_passesMany_8 : decode cX10_passesMany 8 = .ok (.invokevirtual 416, 3) := by decide +kernel
theorem dX10_passesMany_11 : decode cX10_passesMany 11 = .ok (.iinc 2 1, 3) := by decide +kernel
theorem dX10_passesMany_14 : decode cX10_passesMany 14 = .ok (.goto (-12), 3) := by decide +kernel
theorem dX10_passesMany_17 : decode cX10_passesMany 17 = .ok (.return_, 1) := by decide +kernel
set_option maxRecDepth 20000 in
theorem ggX10_look_X10_mayLook : GoodIn wsX10_look wsX10_mayLook := goodIn_r _ [6, 7, 8, 9, 10, 5, 11, 12, 13, 14, 15, 16, 17, 18, 19, 20, 21, 22, 23, 24, 25, 26, 27, 28, 29, 30, 31, 32, 33, 34] (by decide +kernel) (by decide +kernel)
set_option maxRecDepth 20000 in
theorem gX10_look_X10_mayLook : GoodIn wsX10_look (wsV RX10 419 RX10 yX10_mayLook wsX10_mayLook) := goodIn_app (goodIn_of _ (by decide +kernel)) ggX10_look_X10_mayLook
theorem dX10_look_0 : decode cX10_look 0 = .ok (.aload_n 0, 1) := by decide +kernel
theorem dX10_look_1 : decode cX10_look 1 = .ok (.invokevirtual 419, 3) := by decide +kernel
theorem dX10_look_4 : decode cX10_look 4 = .ok (.ifCond .eq 12, 3) := by decide +kernel
theorem dX10_look_7 : decode cX10_look 7 = .ok (.aload_n 0, 1) := by decide +kernel
theorem dX10_look_8 : decode cX10_look 8 = .ok (.getfield 9, 3) := by decide +kernel
theorem dX10_look_11 : decode cX10_look 11 = .ok (.iload_n 1, 1) := by decide +kernel
theorem dX10_look_12 : decode cX10_look 12 = .ok (.iaload, 1) := by decide +kernel
theorem dX10_look_13 : decode cX10_look 13 = .ok (.goto 4, 3) := by decide +kernel
theorem dX10_look_16 : decode cX10_look 16 = .ok (.iconst 0, 1) := by decide +kernel
theorem dX10_look_17 : decode cX10_look 17 = .ok (.ireturn, 1) := by decide +kernel
set_option maxRecDepth 20000 in
theorem ggX10_rows_X10_look : GoodIn wsX10_rows wsX10_look := goodIn_ca (goodIn_r _ [5, 6, 7, 8, 9, 4, 10, 11, 12, 13, 14, 15, 16, 17, 18, 19, 20, 21, 22, 23, 24, 25, 26, 27, 28, 29, 30, 31, 32, 33, 34, 35, 36, 37, 38] (by decide +kernel) (by decide +kernel)) (goodIn_sub (fun _ h => List.mem_cons_of_mem _ (List.mem_append_right _ h)) (by decide +kernel))
set_option maxRecDepth 20000 in
theorem gX10_rows_X10_look : GoodIn wsX10_rows (wsV RX10 422 RX10 yX10_look wsX10_look) := goodIn_app (goodIn_of _ (by decide +kernel)) ggX10_rows_X10_look
theorem dX10_rows_0 : decode cX10_rows 0 = .ok (.aload_n 0, 1) := by decide +kernel
theorem dX10_rows_1 : decode cX10_rows 1 = .ok (.iconst 0, 1) := by decide +kernel
theorem dX10_rows_2 : decode cX10_rows 2 = .ok (.invokevirtual 422, 3) := by decide +kernel
theorem dX10_rows_5 : decode cX10_rows 5 = .ok (.ireturn, 1) := by decide +kernel
set_option maxRecDepth 20000 in
theorem ggX10_columns_X10_look : GoodIn wsX10_columns wsX10_look := goodIn_ca (goodIn_r _ [5, 6, 7, 8, 9, 4, 10, 11, 12, 13, 14, 15, 16, 17, 18, 19, 20, 21, 22, 23, 24, 25, 26, 27, 28, 29, 30, 31, 32, 33, 34, 35, 36, 37, 38] (by decide +kernel) (by decide +kernel)) (goodIn_sub (fun _ h => List.mem_cons_of_mem _ (List.mem_append_right _ h)) (by decide +kernel))
set_option maxRecDepth 20000 in
theorem gX10_columns_X10_look : GoodIn wsX10_columns (wsV RX10 422 RX10 yX10_look wsX10_look) := goodIn_app (goodIn_of _ (by decide +kernel)) ggX10_columns_X10_look
theorem dX10_columns_0 : decode cX10_columns 0 = .ok (.aload_n 0, 1) := by decide +kernel
theorem dX10_columns_1 : decode cX10_columns 1 = .ok (.iconst 1, 1) := by decide +kernel
theorem dX10_columns_2 : decode cX10_columns 2 = .ok (.invokevirtual 422, 3) := by decide +kernel
theorem dX10_columns_5 : decode cX10_columns 5 = .ok (.ireturn, 1) := by decide +kernel
set_option maxRecDepth 20000 in
theorem ggX10_minutesPerRow_X10_look : GoodIn wsX10_minutesPerRow wsX10_look := goodIn_ca (goodIn_r _ [5, 6, 7, 8, 9, 4, 10, 11, 12, 13, 14, 15, 16, 17, 18, 19, 20, 21, 22, 23, 24, 25, 26, 27, 28, 29, 30, 31, 32, 33, 34, 35, 36, 37, 38] (by decide +kernel) (by decide +kernel)) (goodIn_sub (fun _ h => List.mem_cons_of_mem _ (List.mem_append_right _ h)) (by decide +kernel))
set_option maxRecDepth 20000 in
theorem gX10_minutesPerRow_X10_look : GoodIn wsX10_minutesPerRow (wsV RX10 422 RX10 yX10_look wsX10_look) := goodIn_app (goodIn_of _ (by decide +kernel)) ggX10_minutesPerRow_X10_look
theorem dX10_minutesPerRow_0 : decode cX10_minutesPerRow 0 = .ok (.aload_n 0, 1) := by decide +kernel
theorem dX10_minutesPerRow_1 : decode cX10_minutesPerRow 1 = .ok (.iconst 2, 1) := by decide +kernel
theorem dX10_minutesPerRow_2 : decode cX10_minutesPerRow 2 = .ok (.invokevirtual 422, 3) := by decide +kernel
theorem dX10_minutesPerRow_5 : decode cX10_minutesPerRow 5 = .ok (.ireturn, 1) := by decide +kernel
set_option maxRecDepth 20000 in
theorem ggX10_night_X10_look : GoodIn wsX10_night wsX10_look := goodIn_ca (goodIn_r _ [5, 6, 7, 8, 9, 4, 10, 11, 12, 13, 14, 15, 16, 17, 18, 19, 20, 21, 22, 23, 24, 25, 26, 27, 28, 29, 30, 31, 32, 33, 34, 35, 36, 37, 38] (by decide +kernel) (by decide +kernel)) (goodIn_sub (fun _ h => List.mem_cons_of_mem _ (List.mem_append_right _ h)) (by decide +kernel))
set_option maxRecDepth 20000 in
theorem gX10_night_X10_look : GoodIn wsX10_night (wsV RX10 422 RX10 yX10_look wsX10_look) := goodIn_app (goodIn_of _ (by decide +kernel)) ggX10_night_X10_look
theorem dX10_night_0 : decode cX10_night 0 = .ok (.aload_n 0, 1) := by decide +kernel
theorem dX10_night_1 : decode cX10_night 1 = .ok (.bipush 6, 2) := by decide +kernel
theorem dX10_night_3 : decode cX10_night 3 = .ok (.invokevirtual 422, 3) := by decide +kernel
theorem dX10_night_6 : decode cX10_night 6 = .ok (.ireturn, 1) := by decide +kernel
set_option maxRecDepth 20000 in
theorem ggX10_minute_X10_look : GoodIn wsX10_minute wsX10_look := goodIn_ca (goodIn_r _ [5, 6, 7, 8, 9, 4, 10, 11, 12, 13, 14, 15, 16, 17, 18, 19, 20, 21, 22, 23, 24, 25, 26, 27, 28, 29, 30, 31, 32, 33, 34, 35, 36, 37, 38] (by decide +kernel) (by decide +kernel)) (goodIn_sub (fun _ h => List.mem_cons_of_mem _ (List.mem_append_right _ h)) (by decide +kernel))
set_option maxRecDepth 20000 in
theorem gX10_minute_X10_look : GoodIn wsX10_minute (wsV RX10 422 RX10 yX10_look wsX10_look) := goodIn_app (goodIn_of _ (by decide +kernel)) ggX10_minute_X10_look
theorem dX10_minute_0 : decode cX10_minute 0 = .ok (.aload_n 0, 1) := by decide +kernel
theorem dX10_minute_1 : decode cX10_minute 1 = .ok (.bipush 7, 2) := by decide +kernel
theorem dX10_minute_3 : decode cX10_minute 3 = .ok (.invokevirtual 422, 3) := by decide +kernel
theorem dX10_minute_6 : decode cX10_minute 6 = .ok (.ireturn, 1) := by decide +kernel
set_option maxRecDepth 20000 in
theorem ggX10_brightness_X10_mayLook : GoodIn wsX10_brightness wsX10_mayLook := goodIn_r _ [5, 6, 7, 8, 9, 4, 10, 11, 17, 18, 19, 20, 21, 22, 23, 24, 25, 26, 27, 28, 29, 30, 31, 32, 33, 34, 35, 36, 37, 38] (by decide +kernel) (by decide +kernel)
set_option maxRecDepth 20000 in
theorem gX10_brightness_X10_mayLook : GoodIn wsX10_brightness (wsV RX10 419 RX10 yX10_mayLook wsX10_mayLook) := goodIn_app (goodIn_of _ (by decide +kernel)) ggX10_brightness_X10_mayLook
set_option maxRecDepth 20000 in
theorem ggX10_brightness_X10_shine : GoodIn wsX10_brightness wsX10_shine := goodIn_ca (goodIn_r _ [15, 16, 17, 18, 19, 20, 21, 22, 23, 24, 25, 26, 27, 28, 29, 30, 31, 32, 33, 34, 35, 36, 37, 38] (by decide +kernel) (by decide +kernel)) (goodIn_sub (fun _ h => List.mem_cons_of_mem _ (List.mem_append_right _ h)) (by decide +kernel))
set_option maxRecDepth 20000 in
theorem gX10_brightness_X10_shine : GoodIn wsX10_brightness (wsV RX10 333 RX10 yX10_shine wsX10_shine) := goodIn_app (goodIn_of _ (by decide +kernel)) ggX10_brightness_X10_shine
theorem dX10_brightness_0 : decode cX10_brightness 0 = .ok (.aload_n 0, 1) := by decide +kernel
theorem dX10_brightness_1 : decode cX10_brightness 1 = .ok (.invokevirtual 419, 3) := by decide +kernel
theorem dX10_brightness_4 : decode cX10_brightness 4 = .ok (.ifCond .eq 10, 3) := by decide +kernel
theorem dX10_brightness_7 : decode cX10_brightness 7 = .ok (.aload_n 0, 1) := by decide +kernel
theorem dX10_brightness_8 : decode cX10_brightness 8 = .ok (.invokevirtual 333, 3) := by decide +kernel
theorem dX10_brightness_11 : decode cX10_brightness 11 = .ok (.goto 4, 3) := by decide +kernel
theorem dX10_brightness_14 : decode cX10_brightness 14 = .ok (.iconst 0, 1) := by decide +kernel
theorem dX10_brightness_15 : decode cX10_brightness 15 = .ok (.ireturn, 1) := by decide +kernel
set_option maxRecDepth 20000 in
theorem ggX10_moonRow_X10_mayLook : GoodIn wsX10_moonRow wsX10_mayLook := goodIn_r _ [5, 6, 7, 8, 9, 4, 10, 11, 17, 18, 19, 20, 21, 22, 23, 24, 25, 26, 27, 28, 29, 30, 31, 32, 33, 34, 35, 36, 37, 38] (by decide +kernel) (by decide +kernel)
set_option maxRecDepth 20000 in
theorem gX10_moonRow_X10_mayLook : GoodIn wsX10_moonRow (wsV RX10 419 RX10 yX10_mayLook wsX10_mayLook) := goodIn_app (goodIn_of _ (by decide +kernel)) ggX10_moonRow_X10_mayLook
set_option maxRecDepth 20000 in
theorem ggX10_moonRow_X10_litRow : GoodIn wsX10_moonRow wsX10_litRow := goodIn_ca (goodIn_r _ [15, 16, 17, 18, 19, 20, 21, 22, 23, 24, 25, 26, 27, 28, 29, 30, 31, 32, 33, 34, 35, 36, 37, 38] (by decide +kernel) (by decide +kernel)) (goodIn_sub (fun _ h => List.mem_cons_of_mem _ (List.mem_append_right _ h)) (by decide +kernel))
set_option maxRecDepth 20000 in
theorem gX10_moonRow_X10_litRow : GoodIn wsX10_moonRow (wsV RX10 342 RX10 yX10_litRow wsX10_litRow) := goodIn_app (goodIn_of _ (by decide +kernel)) ggX10_moonRow_X10_litRow
theorem dX10_moonRow_0 : decode cX10_moonRow 0 = .ok (.aload_n 0, 1) := by decide +kernel
theorem dX10_moonRow_1 : decode cX10_moonRow 1 = .ok (.invokevirtual 419, 3) := by decide +kernel
theorem dX10_moonRow_4 : decode cX10_moonRow 4 = .ok (.ifCond .eq 10, 3) := by decide +kernel
theorem dX10_moonRow_7 : decode cX10_moonRow 7 = .ok (.aload_n 0, 1) := by decide +kernel
theorem dX10_moonRow_8 : decode cX10_moonRow 8 = .ok (.invokevirtual 342, 3) := by decide +kernel
theorem dX10_moonRow_11 : decode cX10_moonRow 11 = .ok (.goto 4, 3) := by decide +kernel
theorem dX10_moonRow_14 : decode cX10_moonRow 14 = .ok (.iconst 0, 1) := by decide +kernel
theorem dX10_moonRow_15 : decode cX10_moonRow 15 = .ok (.ireturn, 1) := by decide +kernel
set_option maxRecDepth 20000 in
theorem ggX10_isTile_X10_tiles : GoodIn wsX10_isTile wsX10_tiles := goodIn_ca (goodIn_r _ [6, 7, 11, 12, 13, 14, 15, 16, 17, 18, 19, 20, 21, 22, 23, 24, 25, 26, 27, 28, 29, 30, 31, 32] (by decide +kernel) (by decide +kernel)) (goodIn_sub (fun _ h => List.mem_cons_of_mem _ (List.mem_append_right _ h)) (by decide +kernel))
set_option maxRecDepth 20000 in
theorem gX10_isTile_X10_tiles : GoodIn wsX10_isTile (wsV RX10 136 RX10 yX10_tiles wsX10_tiles) := goodIn_app (goodIn_of _ (by decide +kernel)) ggX10_isTile_X10_tiles
set_option maxRecDepth 20000 in
theorem ggX10_isTile_X10_in : GoodIn wsX10_isTile wsX10_in := goodIn_r _ [10] (by decide +kernel) (by decide +kernel)
set_option maxRecDepth 20000 in
theorem gX10_isTile_X10_in : GoodIn wsX10_isTile (va_wsS RX10 65 yX10_in wsX10_in) := goodIn_app (goodIn_of _ (by decide +kernel)) ggX10_isTile_X10_in
theorem dX10_isTile_0 : decode cX10_isTile 0 = .ok (.aload_n 0, 1) := by decide +kernel
theorem dX10_isTile_1 : decode cX10_isTile 1 = .ok (.getfield 44, 3) := by decide +kernel
theorem dX10_isTile_4 : decode cX10_isTile 4 = .ok (.ifCond .eq 21, 3) := by decide +kernel
theorem dX10_isTile_7 : decode cX10_isTile 7 = .ok (.iload_n 1, 1) := by decide +kernel
theorem dX10_isTile_8 : decode cX10_isTile 8 = .ok (.iconst 0, 1) := by decide +kernel
theorem dX10_isTile_9 : decode cX10_isTile 9 = .ok (.aload_n 0, 1) := by decide +kernel
theorem dX10_isTile_10 : decode cX10_isTile 10 = .ok (.invokevirtual 136, 3) := by decide +kernel
theorem dX10_isTile_13 : decode cX10_isTile 13 = .ok (.iconst 1, 1) := by decide +kernel
theorem dX10_isTile_14 : decode cX10_isTile 14 = .ok (.isub, 1) := by decide +kernel
theorem dX10_isTile_15 : decode cX10_isTile 15 = .ok (.invokestatic 65, 3) := by decide +kernel
theorem dX10_isTile_18 : decode cX10_isTile 18 = .ok (.ifCond .eq 7, 3) := by decide +kernel
theorem dX10_isTile_21 : decode cX10_isTile 21 = .ok (.iconst 1, 1) := by decide +kernel
theorem dX10_isTile_22 : decode cX10_isTile 22 = .ok (.goto 4, 3) := by decide +kernel
theorem dX10_isTile_25 : decode cX10_isTile 25 = .ok (.iconst 0, 1) := by decide +kernel
theorem dX10_isTile_26 : decode cX10_isTile 26 = .ok (.ireturn, 1) := by decide +kernel
set_option maxRecDepth 20000 in
theorem ggX10_isColumn_X10_in : GoodIn wsX10_isColumn wsX10_in := goodIn_r _ [6] (by decide +kernel) (by decide +kernel)
set_option maxRecDepth 20000 in
theorem gX10_isColumn_X10_in : GoodIn wsX10_isColumn (va_wsS RX10 65 yX10_in wsX10_in) := goodIn_app (goodIn_of _ (by decide +kernel)) ggX10_isColumn_X10_in
theorem dX10_isColumn_0 : decode cX10_isColumn 0 = .ok (.aload_n 0, 1) := by decide +kernel
theorem dX10_isColumn_1 : decode cX10_isColumn 1 = .ok (.getfield 44, 3) := by decide +kernel
theorem dX10_isColumn_4 : decode cX10_isColumn 4 = .ok (.ifCond .eq 23, 3) := by decide +kernel
theorem dX10_isColumn_7 : decode cX10_isColumn 7 = .ok (.iload_n 1, 1) := by decide +kernel
theorem dX10_isColumn_8 : decode cX10_isColumn 8 = .ok (.iconst 0, 1) := by decide +kernel
theorem dX10_isColumn_9 : decode cX10_isColumn 9 = .ok (.aload_n 0, 1) := by decide +kernel
theorem dX10_isColumn_10 : decode cX10_isColumn 10 = .ok (.getfield 9, 3) := by decide +kernel
theorem dX10_isColumn_13 : decode cX10_isColumn 13 = .ok (.iconst 1, 1) := by decide +kernel
theorem dX10_isColumn_14 : decode cX10_isColumn 14 = .ok (.iaload, 1) := by decide +kernel
theorem dX10_isColumn_15 : decode cX10_isColumn 15 = .ok (.iconst 1, 1) := by decide +kernel
theorem dX10_isColumn_16 : decode cX10_isColumn 16 = .ok (.isub, 1) := by decide +kernel
theorem dX10_isColumn_17 : decode cX10_isColumn 17 = .ok (.invokestatic 65, 3) := by decide +kernel
theorem dX10_isColumn_20 : decode cX10_isColumn 20 = .ok (.ifCond .eq 7, 3) := by decide +kernel
theorem dX10_isColumn_23 : decode cX10_isColumn 23 = .ok (.iconst 1, 1) := by decide +kernel
theorem dX10_isColumn_24 : decode cX10_isColumn 24 = .ok (.goto 4, 3) := by decide +kernel
theorem dX10_isColumn_27 : decode cX10_isColumn 27 = .ok (.iconst 0, 1) := by decide +kernel
theorem dX10_isColumn_28 : decode cX10_isColumn 28 = .ok (.ireturn, 1) := by decide +kernel
set_option maxRecDepth 20000 in
theorem ggX10_mayTile_X10_isTile : GoodIn wsX10_mayTile wsX10_isTile := goodIn_ca (goodIn_r _ [6, 1, 7, 8, 9, 5, 10, 11, 12, 13, 14, 24, 25, 26, 27, 28, 29, 30, 31, 32, 33, 34, 35, 36, 37, 38, 39, 40, 41, 42, 43, 44, 45] (by decide +kernel) (by decide +kernel)) (goodIn_sub (fun _ h => List.mem_cons_of_mem _ (List.mem_append_right _ h)) (by decide +kernel))
set_option maxRecDepth 20000 in
theorem gX10_mayTile_X10_isTile : GoodIn wsX10_mayTile (wsV RX10 425 RX10 yX10_isTile wsX10_isTile) := goodIn_app (goodIn_of _ (by decide +kernel)) ggX10_mayTile_X10_isTile
set_option maxRecDepth 20000 in
theorem ggX10_mayTile_X10_mayTwo : GoodIn wsX10_mayTile wsX10_mayTwo := goodIn_r _ [18, 19, 20, 21, 5, 22, 23, 24, 25, 26, 27, 28, 29, 30, 31, 32, 33, 34, 35, 36, 37, 38, 39, 40, 41, 42, 43, 44, 45] (by decide +kernel) (by decide +kernel)
set_option maxRecDepth 20000 in
theorem gX10_mayTile_X10_mayTwo : GoodIn wsX10_mayTile (wsV RX10 428 RX10 yX10_mayTwo wsX10_mayTwo) := goodIn_app (goodIn_of _ (by decide +kernel)) ggX10_mayTile_X10_mayTwo
theorem dX10_mayTile_0 : decode cX10_mayTile 0 = .ok (.aload_n 0, 1) := by decide +kernel
theorem dX10_mayTile_1 : decode cX10_mayTile 1 = .ok (.aload_n 0, 1) := by decide +kernel
theorem dX10_mayTile_2 : decode cX10_mayTile 2 = .ok (.getfield 44, 3) := by decide +kernel
theorem dX10_mayTile_5 : decode cX10_mayTile 5 = .ok (.aload_n 0, 1) := by decide +kernel
theorem dX10_mayTile_6 : decode cX10_mayTile 6 = .ok (.iload_n 1, 1) := by decide +kernel
theorem dX10_mayTile_7 : decode cX10_mayTile 7 = .ok (.invokevirtual 425, 3) := by decide +kernel
theorem dX10_mayTile_10 : decode cX10_mayTile 10 = .ok (.invokevirtual 428, 3) := by decide +kernel
theorem dX10_mayTile_13 : decode cX10_mayTile 13 = .ok (.ireturn, 1) := by decide +kernel
set_option maxRecDepth 20000 in
theorem ggX10_moonShines_X10_mayLook : GoodIn wsX10_moonShines wsX10_mayLook := goodIn_r _ [5, 6, 7, 8, 9, 4, 10, 11, 28, 29, 30, 31, 32, 33, 34, 35, 36, 37, 38, 39, 40, 41, 42, 43, 44, 45, 46, 47, 48, 49] (by decide +kernel) (by decide +kernel)
set_option maxRecDepth 20000 in
theorem gX10_moonShines_X10_mayLook : GoodIn wsX10_moonShines (wsV RX10 419 RX10 yX10_mayLook wsX10_mayLook) := goodIn_app (goodIn_of _ (by decide +kernel)) ggX10_moonShines_X10_mayLook
set_option maxRecDepth 20000 in
theorem ggX10_moonShines_X10_doesShine : GoodIn wsX10_moonShines wsX10_doesShine := goodIn_ca (goodIn_r _ [15, 16, 17, 18, 4, 19, 20, 21, 22, 23, 24, 25, 26, 27, 28, 29, 30, 31, 32, 33, 34, 35, 36, 37, 38, 39, 40, 41, 42, 43, 44, 45, 46, 47, 48, 49] (by decide +kernel) (by decide +kernel)) (goodIn_sub (fun _ h => List.mem_cons_of_mem _ (List.mem_append_right _ h)) (by decide +kernel))
set_option maxRecDepth 20000 in
theorem gX10_moonShines_X10_doesShine : GoodIn wsX10_moonShines (wsV RX10 339 RX10 yX10_doesShine wsX10_doesShine) := goodIn_app (goodIn_of _ (by decide +kernel)) ggX10_moonShines_X10_doesShine
theorem dX10_moonShines_0 : decode cX10_moonShines 0 = .ok (.aload_n 0, 1) := by decide +kernel
theorem dX10_moonShines_1 : decode cX10_moonShines 1 = .ok (.invokevirtual 419, 3) := by decide +kernel
theorem dX10_moonShines_4 : decode cX10_moonShines 4 = .ok (.ifCond .eq 14, 3) := by decide +kernel
theorem dX10_moonShines_7 : decode cX10_moonShines 7 = .ok (.aload_n 0, 1) := by decide +kernel
theorem dX10_moonShines_8 : decode cX10_moonShines 8 = .ok (.invokevirtual 339, 3) := by decide +kernel
theorem dX10_moonShines_11 : decode cX10_moonShines 11 = .ok (.ifCond .eq 7, 3) := by decide +kernel
theorem dX10_moonShines_14 : decode cX10_moonShines 14 = .ok (.iconst 1, 1) := by decide +kernel
theorem dX10_moonShines_15 : decode cX10_moonShines 15 = .ok (.goto 4, 3) := by decide +kernel
theorem dX10_moonShines_18 : decode cX10_moonShines 18 = .ok (.iconst 0, 1) := by decide +kernel
theorem dX10_moonShines_19 : decode cX10_moonShines 19 = .ok (.ireturn, 1) := by decide +kernel
set_option maxRecDepth 20000 in
theorem ggX10_draughtPeriod_X10_isColumn : GoodIn wsX10_draughtPeriod wsX10_isColumn := goodIn_ca (goodIn_r _ [7, 1, 2, 8, 9, 6, 10, 20, 21, 22, 23, 24, 25, 26, 27, 28, 29, 30, 31, 32, 33, 34, 35, 36, 37, 38, 39, 40, 41] (by decide +kernel) (by decide +kernel)) (goodIn_sub (fun _ h => List.mem_cons_of_mem _ (List.mem_append_right _ h)) (by decide +kernel))
set_option maxRecDepth 20000 in
theorem gX10_draughtPeriod_X10_isColumn : GoodIn wsX10_draughtPeriod (wsV RX10 432 RX10 yX10_isColumn wsX10_isColumn) := goodIn_app (goodIn_of _ (by decide +kernel)) ggX10_draughtPeriod_X10_isColumn
set_option maxRecDepth 20000 in
theorem ggX10_draughtPeriod_X10_mayTwo : GoodIn wsX10_draughtPeriod wsX10_mayTwo := goodIn_r _ [14, 15, 16, 17, 6, 18, 19, 20, 21, 22, 23, 24, 25, 26, 27, 28, 29, 30, 31, 32, 33, 34, 35, 36, 37, 38, 39, 40, 41] (by decide +kernel) (by decide +kernel)
set_option maxRecDepth 20000 in
theorem gX10_draughtPeriod_X10_mayTwo : GoodIn wsX10_draughtPeriod (wsV RX10 428 RX10 yX10_mayTwo wsX10_mayTwo) := goodIn_app (goodIn_of _ (by decide +kernel)) ggX10_draughtPeriod_X10_mayTwo
theorem dX10_draughtPeriod_0 : decode cX10_draughtPeriod 0 = .ok (.aload_n 0, 1) := by decide +kernel
theorem dX10_draughtPeriod_1 : decode cX10_draughtPeriod 1 = .ok (.aload_n 0, 1) := by decide +kernel
theorem dX10_draughtPeriod_2 : decode cX10_draughtPeriod 2 = .ok (.getfield 44, 3) := by decide +kernel
theorem dX10_draughtPeriod_5 : decode cX10_draughtPeriod 5 = .ok (.aload_n 0, 1) := by decide +kernel
theorem dX10_draughtPeriod_6 : decode cX10_draughtPeriod 6 = .ok (.iload_n 1, 1) := by decide +kernel
theorem dX10_draughtPeriod_7 : decode cX10_draughtPeriod 7 = .ok (.invokevirtual 432, 3) := by decide +kernel
theorem dX10_draughtPeriod_10 : decode cX10_draughtPeriod 10 = .ok (.invokevirtual 428, 3) := by decide +kernel
theorem dX10_draughtPeriod_13 : decode cX10_draughtPeriod 13 = .ok (.ifCond .eq 15, 3) := by decide +kernel
theorem dX10_draughtPeriod_16 : decode cX10_draughtPeriod 16 = .ok (.aload_n 0, 1) := by decide +kernel
theorem dX10_draughtPeriod_17 : decode cX10_draughtPeriod 17 = .ok (.getfield 9, 3) := by decide +kernel
theorem dX10_draughtPeriod_20 : decode cX10_draughtPeriod 20 = .ok (.bipush 36, 2) := by decide +kernel
theorem dX10_draughtPeriod_22 : decode cX10_draughtPeriod 22 = .ok (.iload_n 1, 1) := by decide +kernel
theorem dX10_draughtPeriod_23 : decode cX10_draughtPeriod 23 = .ok (.iadd, 1) := by decide +kernel
theorem dX10_draughtPeriod_24 : decode cX10_draughtPeriod 24 = .ok (.iaload, 1) := by decide +kernel
theorem dX10_draughtPeriod_25 : decode cX10_draughtPeriod 25 = .ok (.goto 4, 3) := by decide +kernel
theorem dX10_draughtPeriod_28 : decode cX10_draughtPeriod 28 = .ok (.iconst 0, 1) := by decide +kernel
theorem dX10_draughtPeriod_29 : decode cX10_draughtPeriod 29 = .ok (.ireturn, 1) := by decide +kernel
set_option maxRecDepth 20000 in
theorem ggX10_isLit_X10_mayTile : GoodIn wsX10_isLit wsX10_mayTile := goodIn_ca (goodIn_r _ [5, 6, 7, 8, 9, 4, 10, 11, 12, 13, 14, 15, 16, 17, 18, 19, 20, 21, 22, 23, 24, 25, 26, 27, 52, 53, 54, 55, 56, 57, 58, 59, 60, 61, 62, 63, 64, 65, 66, 67, 68, 69, 70, 71, 72, 73] (by decide +kernel) (by decide +kernel)) (goodIn_sub (fun _ h => List.mem_cons_of_mem _ (List.mem_append_right _ h)) (by decide +kernel))
set_option maxRecDepth 20000 in
theorem gX10_isLit_X10_mayTile : GoodIn wsX10_isLit (wsV RX10 435 RX10 yX10_mayTile wsX10_mayTile) := goodIn_app (goodIn_of _ (by decide +kernel)) ggX10_isLit_X10_mayTile
set_option maxRecDepth 20000 in
theorem ggX10_isLit_X10_shinesOn : GoodIn wsX10_isLit wsX10_shinesOn := goodIn_ca (goodIn_r _ [31, 15, 32, 33, 34, 4, 35, 36, 37, 38, 39, 40, 41, 42, 43, 16, 17, 18, 44, 45, 46, 47, 48, 49, 50, 51, 52, 53, 54, 55, 56, 57, 58, 59, 60, 61, 62, 63, 64, 65, 66, 67, 68, 69, 70, 71, 72, 73] (by decide +kernel) (by decide +kernel)) (goodIn_sub (fun _ h => List.mem_cons_of_mem _ (List.mem_append_right _ h)) (by decide +kernel))
set_option maxRecDepth 20000 in
theorem gX10_isLit_X10_shinesOn : GoodIn wsX10_isLit (wsV RX10 392 RX10 yX10_shinesOn wsX10_shinesOn) := goodIn_app (goodIn_of _ (by decide +kernel)) ggX10_isLit_X10_shinesOn
theorem dX10_isLit_0 : decode cX10_isLit 0 = .ok (.aload_n 0, 1) := by decide +kernel
theorem dX10_isLit_1 : decode cX10_isLit 1 = .ok (.iload_n 1, 1) := by decide +kernel
theorem dX10_isLit_2 : decode cX10_isLit 2 = .ok (.invokevirtual 435, 3) := by decide +kernel
theorem dX10_isLit_5 : decode cX10_isLit 5 = .ok (.ifCond .eq 15, 3) := by decide +kernel
theorem dX10_isLit_8 : decode cX10_isLit 8 = .ok (.aload_n 0, 1) := by decide +kernel
theorem dX10_isLit_9 : decode cX10_isLit 9 = .ok (.iload_n 1, 1) := by decide +kernel
theorem dX10_isLit_10 : decode cX10_isLit 10 = .ok (.invokevirtual 392, 3) := by decide +kernel
theorem dX10_isLit_13 : decode cX10_isLit 13 = .ok (.ifCond .eq 7, 3) := by decide +kernel
theorem dX10_isLit_16 : decode cX10_isLit 16 = .ok (.iconst 1, 1) := by decide +kernel
theorem dX10_isLit_17 : decode cX10_isLit 17 = .ok (.goto 4, 3) := by decide +kernel
theorem dX10_isLit_20 : decode cX10_isLit 20 = .ok (.iconst 0, 1) := by decide +kernel
theorem dX10_isLit_21 : decode cX10_isLit 21 = .ok (.ireturn, 1) := by decide +kernel
set_option maxRecDepth 20000 in
theorem ggX10_isCurtainClosed_X10_isColumn : GoodIn wsX10_isCurtainClosed wsX10_isColumn := goodIn_ca (goodIn_r _ [6, 1, 7, 8, 9, 5, 10, 24, 25, 26, 27, 28, 29, 30, 31, 32, 33, 34, 35, 36, 37, 38, 39, 40, 41, 42, 43, 44, 45] (by decide +kernel) (by decide +kernel)) (goodIn_sub (fun _ h => List.mem_cons_of_mem _ (List.mem_append_right _ h)) (by decide +kernel))
set_option maxRecDepth 20000 in
theorem gX10_isCurtainClosed_X10_isColumn : GoodIn wsX10_isCurtainClosed (wsV RX10 432 RX10 yX10_isColumn wsX10_isColumn) := goodIn_app (goodIn_of _ (by decide +kernel)) ggX10_isCurtainClosed_X10_isColumn
set_option maxRecDepth 20000 in
theorem ggX10_isCurtainClosed_X10_mayTwo : GoodIn wsX10_isCurtainClosed wsX10_mayTwo := goodIn_r _ [14, 15, 16, 17, 5, 18, 19, 24, 25, 26, 27, 28, 29, 30, 31, 32, 33, 34, 35, 36, 37, 38, 39, 40, 41, 42, 43, 44, 45] (by decide +kernel) (by decide +kernel)
set_option maxRecDepth 20000 in
theorem gX10_isCurtainClosed_X10_mayTwo : GoodIn wsX10_isCurtainClosed (wsV RX10 428 RX10 yX10_mayTwo wsX10_mayTwo) := goodIn_app (goodIn_of _ (by decide +kernel)) ggX10_isCurtainClosed_X10_mayTwo
set_option maxRecDepth 20000 in
theorem ggX10_isCurtainClosed_X10_isClosed : GoodIn wsX10_isCurtainClosed wsX10_isClosed := goodIn_ca (goodIn_r _ [23, 7, 24, 25, 26, 27, 28, 29, 30, 31, 32, 33, 34, 35, 36, 37, 38, 39, 40, 41, 42, 43, 44, 45] (by decide +kernel) (by decide +kernel)) (goodIn_sub (fun _ h => List.mem_cons_of_mem _ (List.mem_append_right _ h)) (by decide +kernel))
set_option maxRecDepth 20000 in
theorem gX10_isCurtainClosed_X10_isClosed : GoodIn wsX10_isCurtainClosed (wsV RX10 345 RX10 yX10_isClosed wsX10_isClosed) := goodIn_app (goodIn_of _ (by decide +kernel)) ggX10_isCurtainClosed_X10_isClosed
theorem dX10_isCurtainClosed_0 : decode cX10_isCurtainClosed 0 = .ok (.aload_n 0, 1) := by decide +kernel
theorem dX10_isCurtainClosed_1 : decode cX10_isCurtainClosed 1 = .ok (.aload_n 0, 1) := by decide +kernel
theorem dX10_isCurtainClosed_2 : decode cX10_isCurtainClosed 2 = .ok (.getfield 44, 3) := by decide +kernel
theorem dX10_isCurtainClosed_5 : decode cX10_isCurtainClosed 5 = .ok (.aload_n 0, 1) := by decide +kernel
theorem dX10_isCurtainClosed_6 : decode cX10_isCurtainClosed 6 = .ok (.iload_n 1, 1) := by decide +kernel
theorem dX10_isCurtainClosed_7 : decode cX10_isCurtainClosed 7 = .ok (.invokevirtual 432, 3) := by decide +kernel
theorem dX10_isCurtainClosed_10 : decode cX10_isCurtainClosed 10 = .ok (.invokevirtual 428, 3) := by decide +kernel
theorem dX10_isCurtainClosed_13 : decode cX10_isCurtainClosed 13 = .ok (.ifCond .eq 15, 3) := by decide +kernel
theorem dX10_isCurtainClosed_16 : decode cX10_isCurtainClosed 16 = .ok (.aload_n 0, 1) := by decide +kernel
theorem dX10_isCurtainClosed_17 : decode cX10_isCurtainClosed 17 = .ok (.iload_n 1, 1) := by decide +kernel
theorem dX10_isCurtainClosed_18 : decode cX10_isCurtainClosed 18 = .ok (.invokevirtual 345, 3) := by decide +kernel
theorem dX10_isCurtainClosed_21 : decode cX10_isCurtainClosed 21 = .ok (.ifCond .eq 7, 3) := by decide +kernel
theorem dX10_isCurtainClosed_24 : decode cX10_isCurtainClosed 24 = .ok (.iconst 1, 1) := by decide +kernel
theorem dX10_isCurtainClosed_25 : decode cX10_isCurtainClosed 25 = .ok (.goto 4, 3) := by decide +kernel
theorem dX10_isCurtainClosed_28 : decode cX10_isCurtainClosed 28 = .ok (.iconst 0, 1) := by decide +kernel
theorem dX10_isCurtainClosed_29 : decode cX10_isCurtainClosed 29 = .ok (.ireturn, 1) := by decide +kernel
set_option maxRecDepth 20000 in
theorem ggX10_litIn_X10_shinesOn : GoodIn wsX10_litIn wsX10_shinesOn := goodIn_ca (goodIn_r _ [5, 6, 7, 8, 9, 4, 10, 11, 12, 13, 14, 15, 16, 17, 18, 19, 20, 21, 22, 23, 24, 25, 26, 27, 28, 29, 135, 136, 137, 138, 139, 140, 141, 142, 143, 144, 145, 146, 147, 148, 149, 150, 151, 152, 153, 154, 155, 156] (by decide +kernel) (by decide +kernel)) (goodIn_sub (fun _ h => List.mem_cons_of_mem _ (List.mem_append_right _ h)) (by decide +kernel))
set_option maxRecDepth 20000 in
theorem gX10_litIn_X10_shinesOn : GoodIn wsX10_litIn (wsV RX10 392 RX10 yX10_shinesOn wsX10_shinesOn) := goodIn_app (goodIn_of _ (by decide +kernel)) ggX10_litIn_X10_shinesOn
set_option maxRecDepth 20000 in
theorem ggX10_litIn_X10_passes : GoodIn wsX10_litIn wsX10_passes := goodIn_ca (goodIn_r _ [33, 6, 34, 35, 36, 4, 37, 38, 39, 40, 41, 42, 43, 44, 45, 46, 47, 48, 49, 50, 51, 52, 53, 54, 55, 56, 57, 58, 59, 60, 61, 62, 63, 64, 65, 66, 67, 68, 69, 70, 71, 72, 73, 74, 75, 7, 8, 9, 10, 11, 12, 13, 14, 15, 16, 17, 18, 19, 20, 21, 76, 77, 78, 79, 80, 81, 82, 83, 84, 85, 86, 87, 26, 27, 28, 29, 88, 89, 90, 91, 92, 93, 94, 95, 96, 97, 98, 99, 100, 101, 102, 103, 104, 105, 106, 107, 108, 109, 110, 111, 112, 113, 114, 115, 116, 117, 118, 119, 120, 121, 122, 123, 124, 125, 126, 127, 128, 129, 130, 1, 2, 3, 5, 22, 23, 24, 25, 131, 132, 133, 134, 135, 136, 137, 138, 139, 140, 141, 142, 143, 144, 145, 146, 147, 148, 149, 150, 151, 152, 153, 154, 155, 156] (by decide +kernel) (by decide +kernel)) (goodIn_sub (fun _ h => List.mem_cons_of_mem _ (List.mem_append_right _ h)) (by decide +kernel))
set_option maxRecDepth 20000 in
theorem gX10_litIn_X10_passes : GoodIn wsX10_litIn (wsV RX10 416 RX10 yX10_passes wsX10_passes) := goodIn_app (goodIn_of _ (by decide +kernel)) ggX10_litIn_X10_passes
theorem dX10_litIn_0 : decode cX10_litIn 0 = .ok (.iconst 0, 1) := by decide +kernel
theorem dX10_litIn_1 : decode cX10_litIn 1 = .ok (.istore_n 2, 1) := by decide +kernel
theorem dX10_litIn_2 : decode cX10_litIn 2 = .ok (.iload_n 2, 1) := by decide +kernel
theorem dX10_litIn_3 : decode cX10_litIn 3 = .ok (.sipush 500, 3) := by decide +kernel
theorem dX10_litIn_6 : decode cX10_litIn 6 = .ok (.if_icmp .ge 21, 3) := by decide +kernel
theorem dX10_litIn_9 : decode cX10_litIn 9 = .ok (.aload_n 0, 1) := by decide +kernel
theorem dX10_litIn_10 : decode cX10_litIn 10 = .ok (.iload_n 1, 1) := by decide +kernel
theorem dX10_litIn_11 : decode cX10_litIn 11 = .ok (.invokevirtual 392, 3) := by decide +kernel
theorem dX10_litIn_14 : decode cX10_litIn 14 = .ok (.ifCond .ne 13, 3) := by decide +kernel
theorem dX10_litIn_17 : decode cX10_litIn 17 = .ok (.aload_n 0, 1) := by decide +kernel
theorem dX10_litIn_18 : decode cX10_litIn 18 = .ok (.invokevirtual 416, 3) := by decide +kernel
theorem dX10_litIn_21 : decode cX10_litIn 21 = .ok (.iinc 2 1, 3) := by decide +kernel
theorem dX10_litIn_24 : decode cX10_litIn 24 = .ok (.goto (-22), 3) := by decide +kernel
theorem dX10_litIn_27 : decode cX10_litIn 27 = .ok (.aload_n 0, 1) := by decide +kernel
theorem dX10_litIn_28 : decode cX10_litIn 28 = .ok (.iload_n 1, 1) := by decide +kernel
theorem dX10_litIn_29 : decode cX10_litIn 29 = .ok (.invokevirtual 392, 3) := by decide +kernel
theorem dX10_litIn_32 : decode cX10_litIn 32 = .ok (.ifCond .eq 7, 3) := by decide +kernel
theorem dX10_litIn_35 : decode cX10_litIn 35 = .ok (.iload_n 2, 1) := by decide +kernel
theorem dX10_litIn_36 : decode cX10_litIn 36 = .ok (.goto 4, 3) := by decide +kernel
theorem dX10_litIn_39 : decode cX10_litIn 39 = .ok (.iconst (-1), 1) := by decide +kernel
theorem dX10_litIn_40 : decode cX10_litIn 40 = .ok (.ireturn, 1) := by decide +kernel
set_option maxRecDepth 20000 in
theorem ggX10_minutesUntilLit_X10_mayTile : GoodIn wsX10_minutesUntilLit wsX10_mayTile := goodIn_ca (goodIn_r _ [5, 6, 7, 8, 9, 4, 10, 11, 12, 13, 14, 15, 16, 17, 18, 19, 20, 21, 22, 23, 24, 25, 26, 27, 169, 170, 171, 172, 173, 174, 175, 176, 177, 178, 179, 180, 181, 182, 183, 184, 185, 186, 187, 188, 189, 190] (by decide +kernel) (by decide +kernel)) (goodIn_sub (fun _ h => List.mem_cons_of_mem _ (List.mem_append_right _ h)) (by decide +kernel))
set_option maxRecDepth 20000 in
theorem gX10_minutesUntilLit_X10_mayTile : GoodIn wsX10_minutesUntilLit (wsV RX10 435 RX10 yX10_mayTile wsX10_mayTile) := goodIn_app (goodIn_of _ (by decide +kernel)) ggX10_minutesUntilLit_X10_mayTile
set_option maxRecDepth 20000 in
theorem ggX10_minutesUntilLit_X10_thinks : GoodIn wsX10_minutesUntilLit wsX10_thinks := goodIn_ca (goodIn_r _ [31, 15, 32, 33, 34, 4, 35, 169, 170, 171, 172, 173, 174, 175, 176, 177, 178, 179, 180, 181, 182, 183, 184, 185, 186, 187, 188, 189, 190] (by decide +kernel) (by decide +kernel)) (goodIn_sub (fun _ h => List.mem_cons_of_mem _ (List.mem_append_right _ h)) (by decide +kernel))
set_option maxRecDepth 20000 in
theorem gX10_minutesUntilLit_X10_thinks : GoodIn wsX10_minutesUntilLit (wsV RX10 318 RX10 yX10_thinks wsX10_thinks) := goodIn_app (goodIn_of _ (by decide +kernel)) ggX10_minutesUntilLit_X10_thinks
set_option maxRecDepth 20000 in
theorem ggX10_minutesUntilLit_X10_litIn : GoodIn wsX10_minutesUntilLit wsX10_litIn := goodIn_ca (goodIn_r _ [39, 40, 41, 42, 4, 43, 15, 44, 45, 46, 47, 48, 49, 50, 51, 52, 53, 54, 55, 16, 17, 18, 56, 57, 58, 59, 60, 61, 62, 63, 64, 65, 66, 67, 68, 69, 70, 71, 72, 73, 74, 75, 11, 12, 13, 14, 76, 77, 78, 79, 80, 81, 82, 83, 84, 85, 86, 87, 88, 89, 90, 91, 92, 93, 94, 95, 96, 97, 98, 99, 100, 101, 102, 103, 104, 105, 106, 107, 108, 109, 110, 111, 112, 113, 114, 115, 116, 117, 118, 119, 120, 121, 122, 123, 124, 125, 126, 127, 128, 129, 130, 131, 132, 133, 134, 135, 136, 137, 138, 139, 140, 141, 142, 143, 144, 145, 146, 147, 148, 149, 150, 151, 152, 153, 154, 155, 156, 157, 158, 159, 160, 161, 162, 163, 164, 169, 170, 171, 172, 173, 174, 175, 176, 177, 178, 179, 180, 181, 182, 183, 184, 185, 186, 187, 188, 189, 190] (by decide +kernel) (by decide +kernel)) (goodIn_sub (fun _ h => List.mem_cons_of_mem _ (List.mem_append_right _ h)) (by decide +kernel))
set_option maxRecDepth 20000 in
theorem gX10_minutesUntilLit_X10_litIn : GoodIn wsX10_minutesUntilLit (wsV RX10 438 RX10 yX10_litIn wsX10_litIn) := goodIn_app (goodIn_of _ (by decide +kernel)) ggX10_minutesUntilLit_X10_litIn
set_option maxRecDepth 20000 in
theorem ggX10_minutesUntilLit_X10_back : GoodIn wsX10_minutesUntilLit wsX10_back := goodIn_ca (goodIn_r _ [168, 32, 15, 33, 34, 4, 35, 169, 170, 171, 172, 173, 174, 175, 176, 177, 178, 179, 180, 181, 182, 183, 184, 185, 186, 187, 188, 189, 190] (by decide +kernel) (by decide +kernel)) (goodIn_sub (fun _ h => List.mem_cons_of_mem _ (List.mem_append_right _ h)) (by decide +kernel))
set_option maxRecDepth 20000 in
theorem gX10_minutesUntilLit_X10_back : GoodIn wsX10_minutesUntilLit (wsV RX10 327 RX10 yX10_back wsX10_back) := goodIn_app (goodIn_of _ (by decide +kernel)) ggX10_minutesUntilLit_X10_back
theorem dX10_minutesUntilLit_0 : decode cX10_minutesUntilLit 0 = .ok (.aload_n 0, 1) := by decide +kernel
theorem dX10_minutesUntilLit_1 : decode cX10_minutesUntilLit 1 = .ok (.iload_n 1, 1) := by decide +kernel
theorem dX10_minutesUntilLit_2 : decode cX10_minutesUntilLit 2 = .ok (.invokevirtual 435, 3) := by decide +kernel
theorem dX10_minutesUntilLit_5 : decode cX10_minutesUntilLit 5 = .ok (.ifCond .ne 5, 3) := by decide +kernel
theorem dX10_minutesUntilLit_8 : decode cX10_minutesUntilLit 8 = .ok (.iconst 0, 1) := by decide +kernel
theorem dX10_minutesUntilLit_9 : decode cX10_minutesUntilLit 9 = .ok (.ireturn, 1) := by decide +kernel
theorem dX10_minutesUntilLit_10 : decode cX10_minutesUntilLit 10 = .ok (.aload_n 0, 1) := by decide +kernel
theorem dX10_minutesUntilLit_11 : decode cX10_minutesUntilLit 11 = .ok (.invokevirtual 318, 3) := by decide +kernel
theorem dX10_minutesUntilLit_14 : decode cX10_minutesUntilLit 14 = .ok (.aload_n 0, 1) := by decide +kernel
theorem dX10_minutesUntilLit_15 : decode cX10_minutesUntilLit 15 = .ok (.aload_n 0, 1) := by decide +kernel
theorem dX10_minutesUntilLit_16 : decode cX10_minutesUntilLit 16 = .ok (.iload_n 1, 1) := by decide +kernel
theorem dX10_minutesUntilLit_17 : decode cX10_minutesUntilLit 17 = .ok (.invokevirtual 438, 3) := by decide +kernel
theorem dX10_minutesUntilLit_20 : decode cX10_minutesUntilLit 20 = .ok (.invokevirtual 327, 3) := by decide +kernel
theorem dX10_minutesUntilLit_23 : decode cX10_minutesUntilLit 23 = .ok (.ireturn, 1) := by decide +kernel
set_option maxRecDepth 20000 in
theorem ggX10_nightsUntilFullMoon_X10_mayLook : GoodIn wsX10_nightsUntilFullMoon wsX10_mayLook := goodIn_r _ [6, 7, 8, 9, 10, 5, 11, 12, 13, 14, 15, 16, 17, 18, 19, 20, 21, 22, 23, 24, 25, 26, 27, 28, 29, 30, 31, 32, 33, 34] (by decide +kernel) (by decide +kernel)
set_option maxRecDepth 20000 in
theorem gX10_nightsUntilFullMoon_X10_mayLook : GoodIn wsX10_nightsUntilFullMoon (wsV RX10 419 RX10 yX10_mayLook wsX10_mayLook) := goodIn_app (goodIn_of _ (by decide +kernel)) ggX10_nightsUntilFullMoon_X10_mayLook
theorem dX10_nightsUntilFullMoon_0 : decode cX10_nightsUntilFullMoon 0 = .ok (.aload_n 0, 1) := by decide +kernel
theorem dX10_nightsUntilFullMoon_1 : decode cX10_nightsUntilFullMoon 1 = .ok (.invokevirtual 419, 3) := by decide +kernel
theorem dX10_nightsUntilFullMoon_4 : decode cX10_nightsUntilFullMoon 4 = .ok (.ifCond .eq 22, 3) := by decide +kernel
theorem dX10_nightsUntilFullMoon_7 : decode cX10_nightsUntilFullMoon 7 = .ok (.bipush 45, 2) := by decide +kernel
theorem dX10_nightsUntilFullMoon_9 : decode cX10_nightsUntilFullMoon 9 = .ok (.aload_n 0, 1) := by decide +kernel
theorem dX10_nightsUntilFullMoon_10 : decode cX10_nightsUntilFullMoon 10 = .ok (.getfield 9, 3) := by decide +kernel
theorem dX10_nightsUntilFullMoon_13 : decode cX10_nightsUntilFullMoon 13 = .ok (.bipush 6, 2) := by decide +kernel
theorem dX10_nightsUntilFullMoon_15 : decode cX10_nightsUntilFullMoon 15 = .ok (.iaload, 1) := by decide +kernel
theorem dX10_nightsUntilFullMoon_16 : decode cX10_nightsUntilFullMoon 16 = .ok (.bipush 30, 2) := by decide +kernel
theorem dX10_nightsUntilFullMoon_18 : decode cX10_nightsUntilFullMoon 18 = .ok (.irem, 1) := by decide +kernel
theorem dX10_nightsUntilFullMoon_19 : decode cX10_nightsUntilFullMoon 19 = .ok (.isub, 1) := by decide +kernel
theorem dX10_nightsUntilFullMoon_20 : decode cX10_nightsUntilFullMoon 20 = .ok (.bipush 30, 2) := by decide +kernel
theorem dX10_nightsUntilFullMoon_22 : decode cX10_nightsUntilFullMoon 22 = .ok (.irem, 1) := by decide +kernel
theorem dX10_nightsUntilFullMoon_23 : decode cX10_nightsUntilFullMoon 23 = .ok (.goto 4, 3) := by decide +kernel
theorem dX10_nightsUntilFullMoon_26 : decode cX10_nightsUntilFullMoon 26 = .ok (.iconst 0, 1) := by decide +kernel
theorem dX10_nightsUntilFullMoon_27 : decode cX10_nightsUntilFullMoon 27 = .ok (.ireturn, 1) := by decide +kernel
set_option maxRecDepth 20000 in
theorem ggX10_pace_X10_look : GoodIn wsX10_pace wsX10_look := goodIn_ca (goodIn_r _ [5, 6, 7, 8, 9, 4, 10, 11, 12, 13, 14, 15, 16, 17, 18, 19, 20, 21, 22, 23, 24, 25, 26, 27, 28, 29, 30, 31, 32, 33, 34, 35, 36, 37, 38] (by decide +kernel) (by decide +kernel)) (goodIn_sub (fun _ h => List.mem_cons_of_mem _ (List.mem_append_right _ h)) (by decide +kernel))
set_option maxRecDepth 20000 in
theorem gX10_pace_X10_look : GoodIn wsX10_pace (wsV RX10 422 RX10 yX10_look wsX10_look) := goodIn_app (goodIn_of _ (by decide +kernel)) ggX10_pace_X10_look
theorem dX10_pace_0 : decode cX10_pace 0 = .ok (.aload_n 0, 1) := by decide +kernel
theorem dX10_pace_1 : decode cX10_pace 1 = .ok (.iconst 3, 1) := by decide +kernel
theorem dX10_pace_2 : decode cX10_pace 2 = .ok (.invokevirtual 422, 3) := by decide +kernel
theorem dX10_pace_5 : decode cX10_pace 5 = .ok (.ireturn, 1) := by decide +kernel
set_option maxRecDepth 20000 in
theorem ggX10_stepsPerMinute_X10_mayLook : GoodIn wsX10_stepsPerMinute wsX10_mayLook := goodIn_r _ [5, 6, 7, 8, 9, 4, 10, 11, 36, 37, 38, 39, 40, 41, 42, 43, 44, 45, 46, 47, 48, 49, 50, 51, 52, 53, 54, 55, 56, 57] (by decide +kernel) (by decide +kernel)
set_option maxRecDepth 20000 in
theorem gX10_stepsPerMinute_X10_mayLook : GoodIn wsX10_stepsPerMinute (wsV RX10 419 RX10 yX10_mayLook wsX10_mayLook) := goodIn_app (goodIn_of _ (by decide +kernel)) ggX10_stepsPerMinute_X10_mayLook
set_option maxRecDepth 20000 in
theorem ggX10_stepsPerMinute_X10_triesPerMinute : GoodIn wsX10_stepsPerMinute wsX10_triesPerMinute := goodIn_ca (goodIn_r _ [15, 16, 17, 18, 19, 20, 21, 22, 23, 4, 24, 25, 26, 27, 28, 29, 30, 31, 32, 33, 34, 35, 36, 37, 38, 39, 40, 41, 42, 43, 44, 45, 46, 47, 48, 49, 50, 51, 52, 53, 54, 55, 56, 57] (by decide +kernel) (by decide +kernel)) (goodIn_sub (fun _ h => List.mem_cons_of_mem _ (List.mem_append_right _ h)) (by decide +kernel))
set_option maxRecDepth 20000 in
theorem gX10_stepsPerMinute_X10_triesPerMinute : GoodIn wsX10_stepsPerMinute (wsV RX10 374 RX10 yX10_triesPerMinute wsX10_triesPerMinute) := goodIn_app (goodIn_of _ (by decide +kernel)) ggX10_stepsPerMinute_X10_triesPerMinute
theorem dX10_stepsPerMinute_0 : decode cX10_stepsPerMinute 0 = .ok (.aload_n 0, 1) := by decide +kernel
theorem dX10_stepsPerMinute_1 : decode cX10_stepsPerMinute 1 = .ok (.invokevirtual 419, 3) := by decide +kernel
theorem dX10_stepsPerMinute_4 : decode cX10_stepsPerMinute 4 = .ok (.ifCond .eq 10, 3) := by decide +kernel
theorem dX10_stepsPerMinute_7 : decode cX10_stepsPerMinute 7 = .ok (.aload_n 0, 1) := by decide +kernel
theorem dX10_stepsPerMinute_8 : decode cX10_stepsPerMinute 8 = .ok (.invokevirtual 374, 3) := by decide +kernel
theorem dX10_stepsPerMinute_11 : decode cX10_stepsPerMinute 11 = .ok (.goto 4, 3) := by decide +kernel
theorem dX10_stepsPerMinute_14 : decode cX10_stepsPerMinute 14 = .ok (.iconst 0, 1) := by decide +kernel
theorem dX10_stepsPerMinute_15 : decode cX10_stepsPerMinute 15 = .ok (.ireturn, 1) := by decide +kernel
set_option maxRecDepth 20000 in
theorem ggX10_walkerTile_X10_look : GoodIn wsX10_walkerTile wsX10_look := goodIn_ca (goodIn_r _ [5, 6, 7, 8, 9, 4, 10, 11, 12, 13, 14, 15, 16, 17, 18, 19, 20, 21, 22, 23, 24, 25, 26, 27, 28, 29, 30, 31, 32, 33, 34, 35, 36, 37, 38] (by decide +kernel) (by decide +kernel)) (goodIn_sub (fun _ h => List.mem_cons_of_mem _ (List.mem_append_right _ h)) (by decide +kernel))
set_option maxRecDepth 20000 in
theorem gX10_walkerTile_X10_look : GoodIn wsX10_walkerTile (wsV RX10 422 RX10 yX10_look wsX10_look) := goodIn_app (goodIn_of _ (by decide +kernel)) ggX10_walkerTile_X10_look
theorem dX10_walkerTile_0 : decode cX10_walkerTile 0 = .ok (.aload_n 0, 1) := by decide +kernel
theorem dX10_walkerTile_1 : decode cX10_walkerTile 1 = .ok (.bipush 8, 2) := by decide +kernel
theorem dX10_walkerTile_3 : decode cX10_walkerTile 3 = .ok (.invokevirtual 422, 3) := by decide +kernel
theorem dX10_walkerTile_6 : decode cX10_walkerTile 6 = .ok (.ireturn, 1) := by decide +kernel
set_option maxRecDepth 20000 in
theorem ggX10_facesRight_X10_look : GoodIn wsX10_facesRight wsX10_look := goodIn_ca (goodIn_r _ [5, 6, 7, 8, 9, 4, 10, 11, 12, 13, 14, 15, 16, 17, 18, 19, 20, 21, 22, 23, 24, 25, 26, 27, 28, 29, 30, 31, 32, 33, 34, 35, 36, 37, 38] (by decide +kernel) (by decide +kernel)) (goodIn_sub (fun _ h => List.mem_cons_of_mem _ (List.mem_append_right _ h)) (by decide +kernel))
set_option maxRecDepth 20000 in
theorem gX10_facesRight_X10_look : GoodIn wsX10_facesRight (wsV RX10 422 RX10 yX10_look wsX10_look) := goodIn_app (goodIn_of _ (by decide +kernel)) ggX10_facesRight_X10_look
theorem dX10_facesRight_0 : decode cX10_facesRight 0 = .ok (.aload_n 0, 1) := by decide +kernel
theorem dX10_facesRight_1 : decode cX10_facesRight 1 = .ok (.bipush 10, 2) := by decide +kernel
theorem dX10_facesRight_3 : decode cX10_facesRight 3 = .ok (.invokevirtual 422, 3) := by decide +kernel
theorem dX10_facesRight_6 : decode cX10_facesRight 6 = .ok (.iconst 1, 1) := by decide +kernel
theorem dX10_facesRight_7 : decode cX10_facesRight 7 = .ok (.if_icmp .ne 7, 3) := by decide +kernel
theorem dX10_facesRight_10 : decode cX10_facesRight 10 = .ok (.iconst 1, 1) := by decide +kernel
theorem dX10_facesRight_11 : decode cX10_facesRight 11 = .ok (.goto 4, 3) := by decide +kernel
theorem dX10_facesRight_14 : decode cX10_facesRight 14 = .ok (.iconst 0, 1) := by decide +kernel
theorem dX10_facesRight_15 : decode cX10_facesRight 15 = .ok (.ireturn, 1) := by decide +kernel
set_option maxRecDepth 20000 in
theorem ggX10_restRemaining_X10_look : GoodIn wsX10_restRemaining wsX10_look := goodIn_ca (goodIn_r _ [5, 6, 7, 8, 9, 4, 10, 11, 12, 13, 14, 15, 16, 17, 18, 19, 20, 21, 22, 23, 24, 25, 26, 27, 28, 29, 30, 31, 32, 33, 34, 35, 36, 37, 38] (by decide +kernel) (by decide +kernel)) (goodIn_sub (fun _ h => List.mem_cons_of_mem _ (List.mem_append_right _ h)) (by decide +kernel))
set_option maxRecDepth 20000 in
theorem gX10_restRemaining_X10_look : GoodIn wsX10_restRemaining (wsV RX10 422 RX10 yX10_look wsX10_look) := goodIn_app (goodIn_of _ (by decide +kernel)) ggX10_restRemaining_X10_look
theorem dX10_restRemaining_0 : decode cX10_restRemaining 0 = .ok (.aload_n 0, 1) := by decide +kernel
theorem dX10_restRemaining_1 : decode cX10_restRemaining 1 = .ok (.bipush 11, 2) := by decide +kernel
theorem dX10_restRemaining_3 : decode cX10_restRemaining 3 = .ok (.invokevirtual 422, 3) := by decide +kernel
theorem dX10_restRemaining_6 : decode cX10_restRemaining 6 = .ok (.ireturn, 1) := by decide +kernel
set_option maxRecDepth 20000 in
theorem ggX10_stepsSincePause_X10_look : GoodIn wsX10_stepsSincePause wsX10_look := goodIn_ca (goodIn_r _ [5, 6, 7, 8, 9, 4, 10, 11, 12, 13, 14, 15, 16, 17, 18, 19, 20, 21, 22, 23, 24, 25, 26, 27, 28, 29, 30, 31, 32, 33, 34, 35, 36, 37, 38] (by decide +kernel) (by decide +kernel)) (goodIn_sub (fun _ h => List.mem_cons_of_mem _ (List.mem_append_right _ h)) (by decide +kernel))
set_option maxRecDepth 20000 in
theorem gX10_stepsSincePause_X10_look : GoodIn wsX10_stepsSincePause (wsV RX10 422 RX10 yX10_look wsX10_look) := goodIn_app (goodIn_of _ (by decide +kernel)) ggX10_stepsSincePause_X10_look
theorem dX10_stepsSincePause_0 : decode cX10_stepsSincePause 0 = .ok (.aload_n 0, 1) := by decide +kernel
theorem dX10_stepsSincePause_1 : decode cX10_stepsSincePause 1 = .ok (.bipush 22, 2) := by decide +kernel
theorem dX10_stepsSincePause_3 : decode cX10_stepsSincePause 3 = .ok (.invokevirtual 422, 3) := by decide +kernel
theorem dX10_stepsSincePause_6 : decode cX10_stepsSincePause 6 = .ok (.ireturn, 1) := by decide +kernel
set_option maxRecDepth 20000 in
theorem ggX10_totalSteps_X10_look : GoodIn wsX10_totalSteps wsX10_look := goodIn_ca (goodIn_r _ [5, 6, 7, 8, 9, 4, 10, 11, 12, 13, 14, 15, 16, 17, 18, 19, 20, 21, 22, 23, 24, 25, 26, 27, 28, 29, 30, 31, 32, 33, 34, 35, 36, 37, 38] (by decide +kernel) (by decide +kernel)) (goodIn_sub (fun _ h => List.mem_cons_of_mem _ (List.mem_append_right _ h)) (by decide +kernel))
set_option maxRecDepth 20000 in
theorem gX10_totalSteps_X10_look : GoodIn wsX10_totalSteps (wsV RX10 422 RX10 yX10_look wsX10_look) := goodIn_app (goodIn_of _ (by decide +kernel)) ggX10_totalSteps_X10_look
theorem dX10_totalSteps_0 : decode cX10_totalSteps 0 = .ok (.aload_n 0, 1) := by decide +kernel
theorem dX10_totalSteps_1 : decode cX10_totalSteps 1 = .ok (.bipush 12, 2) := by decide +kernel
theorem dX10_totalSteps_3 : decode cX10_totalSteps 3 = .ok (.invokevirtual 422, 3) := by decide +kernel
theorem dX10_totalSteps_6 : decode cX10_totalSteps 6 = .ok (.ireturn, 1) := by decide +kernel
set_option maxRecDepth 20000 in
theorem ggX10_stepsTonight_X10_look : GoodIn wsX10_stepsTonight wsX10_look := goodIn_ca (goodIn_r _ [5, 6, 7, 8, 9, 4, 10, 11, 12, 13, 14, 15, 16, 17, 18, 19, 20, 21, 22, 23, 24, 25, 26, 27, 28, 29, 30, 31, 32, 33, 34, 35, 36, 37, 38] (by decide +kernel) (by decide +kernel)) (goodIn_sub (fun _ h => List.mem_cons_of_mem _ (List.mem_append_right _ h)) (by decide +kernel))
set_option maxRecDepth 20000 in
theorem gX10_stepsTonight_X10_look : GoodIn wsX10_stepsTonight (wsV RX10 422 RX10 yX10_look wsX10_look) := goodIn_app (goodIn_of _ (by decide +kernel)) ggX10_stepsTonight_X10_look
theorem dX10_stepsTonight_0 : decode cX10_stepsTonight 0 = .ok (.aload_n 0, 1) := by decide +kernel
theorem dX10_stepsTonight_1 : decode cX10_stepsTonight 1 = .ok (.bipush 13, 2) := by decide +kernel
theorem dX10_stepsTonight_3 : decode cX10_stepsTonight 3 = .ok (.invokevirtual 422, 3) := by decide +kernel
theorem dX10_stepsTonight_6 : decode cX10_stepsTonight 6 = .ok (.ireturn, 1) := by decide +kernel
set_option maxRecDepth 20000 in
theorem ggX10_turnCount_X10_look : GoodIn wsX10_turnCount wsX10_look := goodIn_ca (goodIn_r _ [5, 6, 7, 8, 9, 4, 10, 11, 12, 13, 14, 15, 16, 17, 18, 19, 20, 21, 22, 23, 24, 25, 26, 27, 28, 29, 30, 31, 32, 33, 34, 35, 36, 37, 38] (by decide +kernel) (by decide +kernel)) (goodIn_sub (fun _ h => List.mem_cons_of_mem _ (List.mem_append_right _ h)) (by decide +kernel))
set_option maxRecDepth 20000 in
theorem gX10_turnCount_X10_look : GoodIn wsX10_turnCount (wsV RX10 422 RX10 yX10_look wsX10_look) := goodIn_app (goodIn_of _ (by decide +kernel)) ggX10_turnCount_X10_look
theorem dX10_turnCount_0 : decode cX10_turnCount 0 = .ok (.aload_n 0, 1) := by decide +kernel
theorem dX10_turnCount_1 : decode cX10_turnCount 1 = .ok (.bipush 14, 2) := by decide +kernel
theorem dX10_turnCount_3 : decode cX10_turnCount 3 = .ok (.invokevirtual 422, 3) := by decide +kernel
theorem dX10_turnCount_6 : decode cX10_turnCount 6 = .ok (.ireturn, 1) := by decide +kernel
set_option maxRecDepth 20000 in
theorem ggX10_fallCount_X10_look : GoodIn wsX10_fallCount wsX10_look := goodIn_ca (goodIn_r _ [5, 6, 7, 8, 9, 4, 10, 11, 12, 13, 14, 15, 16, 17, 18, 19, 20, 21, 22, 23, 24, 25, 26, 27, 28, 29, 30, 31, 32, 33, 34, 35, 36, 37, 38] (by decide +kernel) (by decide +kernel)) (goodIn_sub (fun _ h => List.mem_cons_of_mem _ (List.mem_append_right _ h)) (by decide +kernel))
set_option maxRecDepth 20000 in
theorem gX10_fallCount_X10_look : GoodIn wsX10_fallCount (wsV RX10 422 RX10 yX10_look wsX10_look) := goodIn_app (goodIn_of _ (by decide +kernel)) ggX10_fallCount_X10_look
theorem dX10_fallCount_0 : decode cX10_fallCount 0 = .ok (.aload_n 0, 1) := by decide +kernel
theorem dX10_fallCount_1 : decode cX10_fallCount 1 = .ok (.bipush 15, 2) := by decide +kernel
theorem dX10_fallCount_3 : decode cX10_fallCount 3 = .ok (.invokevirtual 422, 3) := by decide +kernel
theorem dX10_fallCount_6 : decode cX10_fallCount 6 = .ok (.ireturn, 1) := by decide +kernel
set_option maxRecDepth 20000 in
theorem ggX10_whyBlocked_X10_doesShine : GoodIn wsX10_whyBlocked wsX10_doesShine := goodIn_ca (goodIn_r _ [6, 7, 8, 9, 5, 10, 1, 11, 12, 13, 14, 15, 16, 17, 38, 39, 40, 41, 42, 43, 44, 45, 46, 47, 48, 49, 50, 51, 52, 53, 54, 55, 56, 57, 58, 59] (by decide +kernel) (by decide +kernel)) (goodIn_sub (fun _ h => List.mem_cons_of_mem _ (List.mem_append_right _ h)) (by decide +kernel))
set_option maxRecDepth 20000 in
theorem gX10_whyBlocked_X10_doesShine : GoodIn wsX10_whyBlocked (wsV RX10 339 RX10 yX10_doesShine wsX10_doesShine) := goodIn_app (goodIn_of _ (by decide +kernel)) ggX10_whyBlocked_X10_doesShine
set_option maxRecDepth 20000 in
theorem ggX10_whyBlocked_X10_ahead : GoodIn wsX10_whyBlocked wsX10_ahead := goodIn_ca (goodIn_r _ [21, 1, 22, 23, 24, 5, 25, 26, 27, 28, 29, 38, 39, 40, 41, 42, 43, 44, 45, 46, 47, 48, 49, 50, 51, 52, 53, 54, 55, 56, 57, 58, 59] (by decide +kernel) (by decide +kernel)) (goodIn_sub (fun _ h => List.mem_cons_of_mem _ (List.mem_append_right _ h)) (by decide +kernel))
set_option maxRecDepth 20000 in
theorem gX10_whyBlocked_X10_ahead : GoodIn wsX10_whyBlocked (wsV RX10 362 RX10 yX10_ahead wsX10_ahead) := goodIn_app (goodIn_of _ (by decide +kernel)) ggX10_whyBlocked_X10_ahead
set_option maxRecDepth 20000 in
theorem ggX10_whyBlocked_X10_isClosed : GoodIn wsX10_whyBlocked wsX10_isClosed := goodIn_ca (goodIn_r _ [33, 1, 38, 39, 40, 41, 42, 43, 44, 45, 46, 47, 48, 49, 50, 51, 52, 53, 54, 55, 56, 57, 58, 59] (by decide +kernel) (by decide +kernel)) (goodIn_sub (fun _ h => List.mem_cons_of_mem _ (List.mem_append_right _ h)) (by decide +kernel))
set_option maxRecDepth 20000 in
theorem gX10_whyBlocked_X10_isClosed : GoodIn wsX10_whyBlocked (wsV RX10 345 RX10 yX10_isClosed wsX10_isClosed) := goodIn_app (goodIn_of _ (by decide +kernel)) ggX10_whyBlocked_X10_isClosed
set_option maxRecDepth 20000 in
theorem ggX10_whyBlocked_X10_isDry : GoodIn wsX10_whyBlocked wsX10_isDry := goodIn_ca (goodIn_r _ [37, 1, 38, 39, 40, 41, 42, 43, 44, 45, 46, 47, 48, 49, 50, 51, 52, 53, 54, 55, 56, 57, 58, 59] (by decide +kernel) (by decide +kernel)) (goodIn_sub (fun _ h => List.mem_cons_of_mem _ (List.mem_append_right _ h)) (by decide +kernel))
set_option maxRecDepth 20000 in
theorem gX10_whyBlocked_X10_isDry : GoodIn wsX10_whyBlocked (wsV RX10 145 RX10 yX10_isDry wsX10_isDry) := goodIn_app (goodIn_of _ (by decide +kernel)) ggX10_whyBlocked_X10_isDry
theorem dX10_whyBlocked_0 : decode cX10_whyBlocked 0 = .ok (.aload_n 0, 1) := by decide +kernel
theorem dX10_whyBlocked_1 : decode cX10_whyBlocked 1 = .ok (.getfield 9, 3) := by decide +kernel
theorem dX10_whyBlocked_4 : decode cX10_whyBlocked 4 = .ok (.bipush 8, 2) := by decide +kernel
theorem dX10_whyBlocked_6 : decode cX10_whyBlocked 6 = .ok (.iaload, 1) := by decide +kernel
theorem dX10_whyBlocked_7 : decode cX10_whyBlocked 7 = .ok (.iconst (-1), 1) := by decide +kernel
theorem dX10_whyBlocked_8 : decode cX10_whyBlocked 8 = .ok (.if_icmp .ne 5, 3) := by decide +kernel
theorem dX10_whyBlocked_11 : decode cX10_whyBlocked 11 = .ok (.iconst 1, 1) := by decide +kernel
theorem dX10_whyBlocked_12 : decode cX10_whyBlocked 12 = .ok (.ireturn, 1) := by decide +kernel
theorem dX10_whyBlocked_13 : decode cX10_whyBlocked 13 = .ok (.aload_n 0, 1) := by decide +kernel
theorem dX10_whyBlocked_14 : decode cX10_whyBlocked 14 = .ok (.invokevirtual 339, 3) := by decide +kernel
theorem dX10_whyBlocked_17 : decode cX10_whyBlocked 17 = .ok (.ifCond .ne 5, 3) := by decide +kernel
theorem dX10_whyBlocked_20 : decode cX10_whyBlocked 20 = .ok (.iconst 2, 1) := by decide +kernel
theorem dX10_whyBlocked_21 : decode cX10_whyBlocked 21 = .ok (.ireturn, 1) := by decide +kernel
theorem dX10_whyBlocked_22 : decode cX10_whyBlocked 22 = .ok (.aload_n 0, 1) := by decide +kernel
theorem dX10_whyBlocked_23 : decode cX10_whyBlocked 23 = .ok (.getfield 9, 3) := by decide +kernel
theorem dX10_whyBlocked_26 : decode cX10_whyBlocked 26 = .ok (.bipush 11, 2) := by decide +kernel
theorem dX10_whyBlocked_28 : decode cX10_whyBlocked 28 = .ok (.iaload, 1) := by decide +kernel
theorem dX10_whyBlocked_29 : decode cX10_whyBlocked 29 = .ok (.ifCond .le 5, 3) := by decide +kernel
theorem dX10_whyBlocked_32 : decode cX10_whyBlocked 32 = .ok (.iconst 3, 1) := by decide +kernel
theorem dX10_whyBlocked_33 : decode cX10_whyBlocked 33 = .ok (.ireturn, 1) := by decide +kernel
theorem dX10_whyBlocked_34 : decode cX10_whyBlocked 34 = .ok (.aload_n 0, 1) := by decide +kernel
theorem dX10_whyBlocked_35 : decode cX10_whyBlocked 35 = .ok (.invokevirtual 362, 3) := by decide +kernel
theorem dX10_whyBlocked_38 : decode cX10_whyBlocked 38 = .ok (.istore_n 1, 1) := by decide +kernel
theorem dX10_whyBlocked_39 : decode cX10_whyBlocked 39 = .ok (.iload_n 1, 1) := by decide +kernel
theorem dX10_whyBlocked_40 : decode cX10_whyBlocked 40 = .ok (.iconst (-1), 1) := by decide +kernel
theorem dX10_whyBlocked_41 : decode cX10_whyBlocked 41 = .ok (.if_icmp .ne 5, 3) := by decide +kernel
theorem dX10_whyBlocked_44 : decode cX10_whyBlocked 44 = .ok (.iconst 4, 1) := by decide +kernel
theorem dX10_whyBlocked_45 : decode cX10_whyBlocked 45 = .ok (.ireturn, 1) := by decide +kernel
theorem dX10_whyBlocked_46 : decode cX10_whyBlocked 46 = .ok (.aload_n 0, 1) := by decide +kernel
theorem dX10_whyBlocked_47 : decode cX10_whyBlocked 47 = .ok (.iload_n 1, 1) := by decide +kernel
theorem dX10_whyBlocked_48 : decode cX10_whyBlocked 48 = .ok (.aload_n 0, 1) := by decide +kernel
theorem dX10_whyBlocked_49 : decode cX10_whyBlocked 49 = .ok (.getfield 9, 3) := by decide +kernel
theorem dX10_whyBlocked_52 : decode cX10_whyBlocked 52 = .ok (.iconst 1, 1) := by decide +kernel
theorem dX10_whyBlocked_53 : decode cX10_whyBlocked 53 = .ok (.iaload, 1) := by decide +kernel
theorem dX10_whyBlocked_54 : decode cX10_whyBlocked 54 = .ok (.irem, 1) := by decide +kernel
theorem dX10_whyBlocked_55 : decode cX10_whyBlocked 55 = .ok (.invokevirtual 345, 3) := by decide +kernel
theorem dX10_whyBlocked_58 : decode cX10_whyBlocked 58 = .ok (.ifCond .eq 5, 3) := by decide +kernel
theorem dX10_whyBlocked_61 : decode cX10_whyBlocked 61 = .ok (.iconst 5, 1) := by decide +kernel
theorem dX10_whyBlocked_62 : decode cX10_whyBlocked 62 = .ok (.ireturn, 1) := by decide +kernel
theorem dX10_whyBlocked_63 : decode cX10_whyBlocked 63 = .ok (.aload_n 0, 1) := by decide +kernel
theorem dX10_whyBlocked_64 : decode cX10_whyBlocked 64 = .ok (.iload_n 1, 1) := by decide +kernel
theorem dX10_whyBlocked_65 : decode cX10_whyBlocked 65 = .ok (.invokevirtual 145, 3) := by decide +kernel
theorem dX10_whyBlocked_68 : decode cX10_whyBlocked 68 = .ok (.ifCond .eq 7, 3) := by decide +kernel
theorem dX10_whyBlocked_71 : decode cX10_whyBlocked 71 = .ok (.iconst 0, 1) := by decide +kernel
theorem dX10_whyBlocked_72 : decode cX10_whyBlocked 72 = .ok (.goto 5, 3) := by decide +kernel
theorem dX10_whyBlocked_75 : decode cX10_whyBlocked 75 = .ok (.bipush 6, 2) := by decide +kernel
theorem dX10_whyBlocked_77 : decode cX10_whyBlocked 77 = .ok (.ireturn, 1) := by decide +kernel
set_option maxRecDepth 20000 in
theorem ggX10_blockReason_X10_mayLook : GoodIn wsX10_blockReason wsX10_mayLook := goodIn_r _ [5, 6, 7, 8, 9, 4, 10, 11, 52, 53, 54, 55, 56, 57, 58, 59, 60, 61, 62, 63, 64, 65, 66, 67, 68, 69, 70, 71, 72, 73] (by decide +kernel) (by decide +kernel)
set_option maxRecDepth 20000 in
theorem gX10_blockReason_X10_mayLook : GoodIn wsX10_blockReason (wsV RX10 419 RX10 yX10_mayLook wsX10_mayLook) := goodIn_app (goodIn_of _ (by decide +kernel)) ggX10_blockReason_X10_mayLook
set_option maxRecDepth 20000 in
theorem ggX10_blockReason_X10_whyBlocked : GoodIn wsX10_blockReason wsX10_whyBlocked := goodIn_ca (goodIn_r _ [15, 16, 17, 18, 19, 4, 20, 21, 22, 23, 24, 25, 26, 27, 28, 29, 30, 31, 32, 33, 34, 35, 36, 37, 38, 39, 40, 41, 42, 43, 44, 45, 46, 47, 48, 49, 50, 51, 52, 53, 54, 55, 56, 57, 58, 59, 60, 61, 62, 63, 64, 65, 66, 67, 68, 69, 70, 71, 72, 73] (by decide +kernel) (by decide +kernel)) (goodIn_sub (fun _ h => List.mem_cons_of_mem _ (List.mem_append_right _ h)) (by decide +kernel))
set_option maxRecDepth 20000 in
theorem gX10_blockReason_X10_whyBlocked : GoodIn wsX10_blockReason (wsV RX10 441 RX10 yX10_whyBlocked wsX10_whyBlocked) := goodIn_app (goodIn_of _ (by decide +kernel)) ggX10_blockReason_X10_whyBlocked
theorem dX10_blockReason_0 : decode cX10_blockReason 0 = .ok (.aload_n 0, 1) := by decide +kernel
theorem dX10_blockReason_1 : decode cX10_blockReason 1 = .ok (.invokevirtual 419, 3) := by decide +kernel
theorem dX10_blockReason_4 : decode cX10_blockReason 4 = .ok (.ifCond .eq 10, 3) := by decide +kernel
theorem dX10_blockReason_7 : decode cX10_blockReason 7 = .ok (.aload_n 0, 1) := by decide +kernel
theorem dX10_blockReason_8 : decode cX10_blockReason 8 = .ok (.invokevirtual 441, 3) := by decide +kernel
theorem dX10_blockReason_11 : decode cX10_blockReason 11 = .ok (.goto 4, 3) := by decide +kernel
theorem dX10_blockReason_14 : decode cX10_blockReason 14 = .ok (.iconst 0, 1) := by decide +kernel
theorem dX10_blockReason_15 : decode cX10_blockReason 15 = .ok (.ireturn, 1) := by decide +kernel
set_option maxRecDepth 20000 in
theorem ggX10_wear_X10_mayTile : GoodIn wsX10_wear wsX10_mayTile := goodIn_ca (goodIn_r _ [6, 7, 8, 9, 10, 5, 11, 12, 13, 14, 15, 1, 16, 17, 18, 19, 20, 21, 22, 23, 24, 25, 26, 27, 28, 29, 30, 31, 32, 33, 34, 35, 36, 37, 38, 39, 40, 41, 42, 43, 44, 45, 46, 47, 48, 49] (by decide +kernel) (by decide +kernel)) (goodIn_sub (fun _ h => List.mem_cons_of_mem _ (List.mem_append_right _ h)) (by decide +kernel))
set_option maxRecDepth 20000 in
theorem gX10_wear_X10_mayTile : GoodIn wsX10_wear (wsV RX10 435 RX10 yX10_mayTile wsX10_mayTile) := goodIn_app (goodIn_of _ (by decide +kernel)) ggX10_wear_X10_mayTile
theorem dX10_wear_0 : decode cX10_wear 0 = .ok (.aload_n 0, 1) := by decide +kernel
theorem dX10_wear_1 : decode cX10_wear 1 = .ok (.iload_n 1, 1) := by decide +kernel
theorem dX10_wear_2 : decode cX10_wear 2 = .ok (.invokevirtual 435, 3) := by decide +kernel
theorem dX10_wear_5 : decode cX10_wear 5 = .ok (.ifCond .eq 16, 3) := by decide +kernel
theorem dX10_wear_8 : decode cX10_wear 8 = .ok (.aload_n 0, 1) := by decide +kernel
theorem dX10_wear_9 : decode cX10_wear 9 = .ok (.getfield 9, 3) := by decide +kernel
theorem dX10_wear_12 : decode cX10_wear 12 = .ok (.sipush 324, 3) := by decide +kernel
theorem dX10_wear_15 : decode cX10_wear 15 = .ok (.iload_n 1, 1) := by decide +kernel
theorem dX10_wear_16 : decode cX10_wear 16 = .ok (.iadd, 1) := by decide +kernel
theorem dX10_wear_17 : decode cX10_wear 17 = .ok (.iaload, 1) := by decide +kernel
theorem dX10_wear_18 : decode cX10_wear 18 = .ok (.goto 4, 3) := by decide +kernel
theorem dX10_wear_21 : decode cX10_wear 21 = .ok (.iconst 0, 1) := by decide +kernel
theorem dX10_wear_22 : decode cX10_wear 22 = .ok (.ireturn, 1) := by decide +kernel
set_option maxRecDepth 20000 in
theorem ggX10_catTile_X10_look : GoodIn wsX10_catTile wsX10_look := goodIn_ca (goodIn_r _ [5, 6, 7, 8, 9, 4, 10, 11, 12, 13, 14, 15, 16, 17, 18, 19, 20, 21, 22, 23, 24, 25, 26, 27, 28, 29, 30, 31, 32, 33, 34, 35, 36, 37, 38] (by decide +kernel) (by decide +kernel)) (goodIn_sub (fun _ h => List.mem_cons_of_mem _ (List.mem_append_right _ h)) (by decide +kernel))
set_option maxRecDepth 20000 in
theorem gX10_catTile_X10_look : GoodIn wsX10_catTile (wsV RX10 422 RX10 yX10_look wsX10_look) := goodIn_app (goodIn_of _ (by decide +kernel)) ggX10_catTile_X10_look
theorem dX10_catTile_0 : decode cX10_catTile 0 = .ok (.aload_n 0, 1) := by decide +kernel
theorem dX10_catTile_1 : decode cX10_catTile 1 = .ok (.bipush 16, 2) := by decide +kernel
theorem dX10_catTile_3 : decode cX10_catTile 3 = .ok (.invokevirtual 422, 3) := by decide +kernel
theorem dX10_catTile_6 : decode cX10_catTile 6 = .ok (.ireturn, 1) := by decide +kernel
set_option maxRecDepth 20000 in
theorem ggX10_hasRug_X10_mayTile : GoodIn wsX10_hasRug wsX10_mayTile := goodIn_ca (goodIn_r _ [6, 7, 8, 9, 10, 5, 11, 12, 13, 14, 15, 1, 16, 17, 18, 19, 20, 21, 22, 23, 24, 25, 26, 27, 28, 29, 30, 31, 32, 33, 34, 35, 36, 37, 38, 39, 40, 41, 42, 43, 44, 45, 46, 47, 48, 49] (by decide +kernel) (by decide +kernel)) (goodIn_sub (fun _ h => List.mem_cons_of_mem _ (List.mem_append_right _ h)) (by decide +kernel))
set_option maxRecDepth 20000 in
theorem gX10_hasRug_X10_mayTile : GoodIn wsX10_hasRug (wsV RX10 435 RX10 yX10_mayTile wsX10_mayTile) := goodIn_app (goodIn_of _ (by decide +kernel)) ggX10_hasRug_X10_mayTile
theorem dX10_hasRug_0 : decode cX10_hasRug 0 = .ok (.aload_n 0, 1) := by decide +kernel
theorem dX10_hasRug_1 : decode cX10_hasRug 1 = .ok (.iload_n 1, 1) := by decide +kernel
theorem dX10_hasRug_2 : decode cX10_hasRug 2 = .ok (.invokevirtual 435, 3) := by decide +kernel
theorem dX10_hasRug_5 : decode cX10_hasRug 5 = .ok (.ifCond .eq 21, 3) := by decide +kernel
theorem dX10_hasRug_8 : decode cX10_hasRug 8 = .ok (.aload_n 0, 1) := by decide +kernel
theorem dX10_hasRug_9 : decode cX10_hasRug 9 = .ok (.getfield 9, 3) := by decide +kernel
theorem dX10_hasRug_12 : decode cX10_hasRug 12 = .ok (.sipush 164, 3) := by decide +kernel
theorem dX10_hasRug_15 : decode cX10_hasRug 15 = .ok (.iload_n 1, 1) := by decide +kernel
theorem dX10_hasRug_16 : decode cX10_hasRug 16 = .ok (.iadd, 1) := by decide +kernel
theorem dX10_hasRug_17 : decode cX10_hasRug 17 = .ok (.iaload, 1) := by decide +kernel
theorem dX10_hasRug_18 : decode cX10_hasRug 18 = .ok (.iconst 1, 1) := by decide +kernel
theorem dX10_hasRug_19 : decode cX10_hasRug 19 = .ok (.if_icmp .ne 7, 3) := by decide +kernel
theorem dX10_hasRug_22 : decode cX10_hasRug 22 = .ok (.iconst 1, 1) := by decide +kernel
theorem dX10_hasRug_23 : decode cX10_hasRug 23 = .ok (.goto 4, 3) := by decide +kernel
theorem dX10_hasRug_26 : decode cX10_hasRug 26 = .ok (.iconst 0, 1) := by decide +kernel
theorem dX10_hasRug_27 : decode cX10_hasRug 27 = .ok (.ireturn, 1) := by decide +kernel
set_option maxRecDepth 20000 in
theorem ggX10_slideCount_X10_look : GoodIn wsX10_slideCount wsX10_look := goodIn_ca (goodIn_r _ [5, 6, 7, 8, 9, 4, 10, 11, 12, 13, 14, 15, 16, 17, 18, 19, 20, 21, 22, 23, 24, 25, 26, 27, 28, 29, 30, 31, 32, 33, 34, 35, 36, 37, 38] (by decide +kernel) (by decide +kernel)) (goodIn_sub (fun _ h => List.mem_cons_of_mem _ (List.mem_append_right _ h)) (by decide +kernel))
set_option maxRecDepth 20000 in
theorem gX10_slideCount_X10_look : GoodIn wsX10_slideCount (wsV RX10 422 RX10 yX10_look wsX10_look) := goodIn_app (goodIn_of _ (by decide +kernel)) ggX10_slideCount_X10_look
theorem dX10_slideCount_0 : decode cX10_slideCount 0 = .ok (.aload_n 0, 1) := by decide +kernel
theorem dX10_slideCount_1 : decode cX10_slideCount 1 = .ok (.bipush 23, 2) := by decide +kernel
theorem dX10_slideCount_3 : decode cX10_slideCount 3 = .ok (.invokevirtual 422, 3) := by decide +kernel
theorem dX10_slideCount_6 : decode cX10_slideCount 6 = .ok (.ireturn, 1) := by decide +kernel
set_option maxRecDepth 20000 in
theorem ggX10_hasBowl_X10_mayTile : GoodIn wsX10_hasBowl wsX10_mayTile := goodIn_ca (goodIn_r _ [6, 7, 8, 9, 10, 5, 11, 12, 13, 14, 15, 1, 16, 17, 18, 19, 20, 21, 22, 23, 24, 25, 26, 27, 28, 29, 30, 31, 32, 33, 34, 35, 36, 37, 38, 39, 40, 41, 42, 43, 44, 45, 46, 47, 48, 49] (by decide +kernel) (by decide +kernel)) (goodIn_sub (fun _ h => List.mem_cons_of_mem _ (List.mem_append_right _ h)) (by decide +kernel))
set_option maxRecDepth 20000 in
theorem gX10_hasBowl_X10_mayTile : GoodIn wsX10_hasBowl (wsV RX10 435 RX10 yX10_mayTile wsX10_mayTile) := goodIn_app (goodIn_of _ (by decide +kernel)) ggX10_hasBowl_X10_mayTile
theorem dX10_hasBowl_0 : decode cX10_hasBowl 0 = .ok (.aload_n 0, 1) := by decide +kernel
theorem dX10_hasBowl_1 : decode cX10_hasBowl 1 = .ok (.iload_n 1, 1) := by decide +kernel
theorem dX10_hasBowl_2 : decode cX10_hasBowl 2 = .ok (.invokevirtual 435, 3) := by decide +kernel
theorem dX10_hasBowl_5 : decode cX10_hasBowl 5 = .ok (.ifCond .eq 20, 3) := by decide +kernel
theorem dX10_hasBowl_8 : decode cX10_hasBowl 8 = .ok (.aload_n 0, 1) := by decide +kernel
theorem dX10_hasBowl_9 : decode cX10_hasBowl 9 = .ok (.getfield 9, 3) := by decide +kernel
theorem dX10_hasBowl_12 : decode cX10_hasBowl 12 = .ok (.bipush 84, 2) := by decide +kernel
theorem dX10_hasBowl_14 : decode cX10_hasBowl 14 = .ok (.iload_n 1, 1) := by decide +kernel
theorem dX10_hasBowl_15 : decode cX10_hasBowl 15 = .ok (.iadd, 1) := by decide +kernel
theorem dX10_hasBowl_16 : decode cX10_hasBowl 16 = .ok (.iaload, 1) := by decide +kernel
theorem dX10_hasBowl_17 : decode cX10_hasBowl 17 = .ok (.iconst 1, 1) := by decide +kernel
theorem dX10_hasBowl_18 : decode cX10_hasBowl 18 = .ok (.if_icmp .ne 7, 3) := by decide +kernel
theorem dX10_hasBowl_21 : decode cX10_hasBowl 21 = .ok (.iconst 1, 1) := by decide +kernel
theorem dX10_hasBowl_22 : decode cX10_hasBowl 22 = .ok (.goto 4, 3) := by decide +kernel
theorem dX10_hasBowl_25 : decode cX10_hasBowl 25 = .ok (.iconst 0, 1) := by decide +kernel
theorem dX10_hasBowl_26 : decode cX10_hasBowl 26 = .ok (.ireturn, 1) := by decide +kernel
set_option maxRecDepth 20000 in
theorem ggX10_bowls_X10_tiles : GoodIn wsX10_bowls wsX10_tiles := goodIn_ca (goodIn_r _ [6, 1, 7, 8, 9, 10, 11, 12, 13, 14, 15, 16, 17, 18, 19, 20, 21, 22, 23, 24, 25, 26, 27, 28] (by decide +kernel) (by decide +kernel)) (goodIn_sub (fun _ h => List.mem_cons_of_mem _ (List.mem_append_right _ h)) (by decide +kernel))
set_option maxRecDepth 20000 in
theorem gX10_bowls_X10_tiles : GoodIn wsX10_bowls (wsV RX10 136 RX10 yX10_tiles wsX10_tiles) := goodIn_app (goodIn_of _ (by decide +kernel)) ggX10_bowls_X10_tiles
theorem dX10_bowls_0 : decode cX10_bowls 0 = .ok (.iconst 0, 1) := by decide +kernel
theorem dX10_bowls_1 : decode cX10_bowls 1 = .ok (.istore_n 1, 1) := by decide +kernel
theorem dX10_bowls_2 : decode cX10_bowls 2 = .ok (.iconst 0, 1) := by decide +kernel
theorem dX10_bowls_3 : decode cX10_bowls 3 = .ok (.istore_n 2, 1) := by decide +kernel
theorem dX10_bowls_4 : decode cX10_bowls 4 = .ok (.iload_n 2, 1) := by decide +kernel
theorem dX10_bowls_5 : decode cX10_bowls 5 = .ok (.aload_n 0, 1) := by decide +kernel
theorem dX10_bowls_6 : decode cX10_bowls 6 = .ok (.invokevirtual 136, 3) := by decide +kernel
theorem dX10_bowls_9 : decode cX10_bowls 9 = .ok (.if_icmp .ge 21, 3) := by decide +kernel
theorem dX10_bowls_12 : decode cX10_bowls 12 = .ok (.iload_n 1, 1) := by decide +kernel
theorem dX10_bowls_13 : decode cX10_bowls 13 = .ok (.aload_n 0, 1) := by decide +kernel
theorem dX10_bowls_14 : decode cX10_bowls 14 = .ok (.getfield 9, 3) := by decide +kernel
theorem dX10_bowls_17 : decode cX10_bowls 17 = .ok (.bipush 84, 2) := by decide +kernel
theorem dX10_bowls_19 : decode cX10_bowls 19 = .ok (.iload_n 2, 1) := by decide +kernel
theorem dX10_bowls_20 : decode cX10_bowls 20 = .ok (.iadd, 1) := by decide +kernel
theorem dX10_bowls_21 : decode cX10_bowls 21 = .ok (.iaload, 1) := by decide +kernel
theorem dX10_bowls_22 : decode cX10_bowls 22 = .ok (.iadd, 1) := by decide +kernel
theorem dX10_bowls_23 : decode cX10_bowls 23 = .ok (.istore_n 1, 1) := by decide +kernel
theorem dX10_bowls_24 : decode cX10_bowls 24 = .ok (.iinc 2 1, 3) := by decide +kernel
theorem dX10_bowls_27 : decode cX10_bowls 27 = .ok (.goto (-23), 3) := by decide +kernel
theorem dX10_bowls_30 : decode cX10_bowls 30 = .ok (.iload_n 1, 1) := by decide +kernel
theorem dX10_bowls_31 : decode cX10_bowls 31 = .ok (.ireturn, 1) := by decide +kernel
set_option maxRecDepth 20000 in
theorem ggX10_spillTime_X10_mayTile : GoodIn wsX10_spillTime wsX10_mayTile := goodIn_ca (goodIn_r _ [6, 7, 8, 9, 10, 5, 11, 12, 13, 14, 15, 1, 16, 17, 18, 19, 20, 21, 22, 23, 24, 25, 26, 27, 28, 29, 30, 31, 32, 33, 34, 35, 36, 37, 38, 39, 40, 41, 42, 43, 44, 45, 46, 47, 48, 49] (by decide +kernel) (by decide +kernel)) (goodIn_sub (fun _ h => List.mem_cons_of_mem _ (List.mem_append_right _ h)) (by decide +kernel))
set_option maxRecDepth 20000 in
theorem gX10_spillTime_X10_mayTile : GoodIn wsX10_spillTime (wsV RX10 435 RX10 yX10_mayTile wsX10_mayTile) := goodIn_app (goodIn_of _ (by decide +kernel)) ggX10_spillTime_X10_mayTile
theorem dX10_spillTime_0 : decode cX10_spillTime 0 = .ok (.aload_n 0, 1) := by decide +kernel
theorem dX10_spillTime_1 : decode cX10_spillTime 1 = .ok (.iload_n 1, 1) := by decide +kernel
theorem dX10_spillTime_2 : decode cX10_spillTime 2 = .ok (.invokevirtual 435, 3) := by decide +kernel
theorem dX10_spillTime_5 : decode cX10_spillTime 5 = .ok (.ifCond .eq 16, 3) := by decide +kernel
theorem dX10_spillTime_8 : decode cX10_spillTime 8 = .ok (.aload_n 0, 1) := by decide +kernel
theorem dX10_spillTime_9 : decode cX10_spillTime 9 = .ok (.getfield 9, 3) := by decide +kernel
theorem dX10_spillTime_12 : decode cX10_spillTime 12 = .ok (.sipush 244, 3) := by decide +kernel
theorem dX10_spillTime_15 : decode cX10_spillTime 15 = .ok (.iload_n 1, 1) := by decide +kernel
theorem dX10_spillTime_16 : decode cX10_spillTime 16 = .ok (.iadd, 1) := by decide +kernel
theorem dX10_spillTime_17 : decode cX10_spillTime 17 = .ok (.iaload, 1) := by decide +kernel
theorem dX10_spillTime_18 : decode cX10_spillTime 18 = .ok (.goto 4, 3) := by decide +kernel
theorem dX10_spillTime_21 : decode cX10_spillTime 21 = .ok (.iconst 0, 1) := by decide +kernel
theorem dX10_spillTime_22 : decode cX10_spillTime 22 = .ok (.ireturn, 1) := by decide +kernel
set_option maxRecDepth 20000 in
theorem ggX10_spillCount_X10_mayLook : GoodIn wsX10_spillCount wsX10_mayLook := goodIn_r _ [5, 6, 7, 8, 9, 4, 10, 11, 24, 25, 26, 27, 28, 29, 30, 31, 32, 33, 34, 35, 36, 37, 38, 39, 40, 41, 42, 43, 44, 45] (by decide +kernel) (by decide +kernel)
set_option maxRecDepth 20000 in
theorem gX10_spillCount_X10_mayLook : GoodIn wsX10_spillCount (wsV RX10 419 RX10 yX10_mayLook wsX10_mayLook) := goodIn_app (goodIn_of _ (by decide +kernel)) ggX10_spillCount_X10_mayLook
set_option maxRecDepth 20000 in
theorem ggX10_spillCount_X10_tiles : GoodIn wsX10_spillCount wsX10_tiles := goodIn_ca (goodIn_r _ [15, 16, 24, 25, 26, 27, 28, 29, 30, 31, 32, 33, 34, 35, 36, 37, 38, 39, 40, 41, 42, 43, 44, 45] (by decide +kernel) (by decide +kernel)) (goodIn_sub (fun _ h => List.mem_cons_of_mem _ (List.mem_append_right _ h)) (by decide +kernel))
set_option maxRecDepth 20000 in
theorem gX10_spillCount_X10_tiles : GoodIn wsX10_spillCount (wsV RX10 136 RX10 yX10_tiles wsX10_tiles) := goodIn_app (goodIn_of _ (by decide +kernel)) ggX10_spillCount_X10_tiles
set_option maxRecDepth 20000 in
theorem ggX10_spillCount_X10_isDry : GoodIn wsX10_spillCount wsX10_isDry := goodIn_ca (goodIn_r _ [20, 16, 24, 25, 26, 27, 28, 29, 30, 31, 32, 33, 34, 35, 36, 37, 38, 39, 40, 41, 42, 43, 44, 45] (by decide +kernel) (by decide +kernel)) (goodIn_sub (fun _ h => List.mem_cons_of_mem _ (List.mem_append_right _ h)) (by decide +kernel))
set_option maxRecDepth 20000 in
theorem gX10_spillCount_X10_isDry : GoodIn wsX10_spillCount (wsV RX10 145 RX10 yX10_isDry wsX10_isDry) := goodIn_app (goodIn_of _ (by decide +kernel)) ggX10_spillCount_X10_isDry
set_option maxRecDepth 20000 in
theorem ggX10_spillCount_X10_one : GoodIn wsX10_spillCount wsX10_one := goodIn_r _ [23] (by decide +kernel) (by decide +kernel)
set_option maxRecDepth 20000 in
theorem gX10_spillCount_X10_one : GoodIn wsX10_spillCount (va_wsS RX10 126 yX10_one wsX10_one) := goodIn_app (goodIn_of _ (by decide +kernel)) ggX10_spillCount_X10_one
theorem dX10_spillCount_0 : decode cX10_spillCount 0 = .ok (.aload_n 0, 1) := by decide +kernel
theorem dX10_spillCount_1 : decode cX10_spillCount 1 = .ok (.invokevirtual 419, 3) := by decide +kernel
theorem dX10_spillCount_4 : decode cX10_spillCount 4 = .ok (.ifCond .ne 5, 3) := by decide +kernel
theorem dX10_spillCount_7 : decode cX10_spillCount 7 = .ok (.iconst 0, 1) := by decide +kernel
theorem dX10_spillCount_8 : decode cX10_spillCount 8 = .ok (.ireturn, 1) := by decide +kernel
theorem dX10_spillCount_9 : decode cX10_spillCount 9 = .ok (.iconst 0, 1) := by decide +kernel
theorem dX10_spillCount_10 : decode cX10_spillCount 10 = .ok (.istore_n 1, 1) := by decide +kernel
theorem dX10_spillCount_11 : decode cX10_spillCount 11 = .ok (.iconst 0, 1) := by decide +kernel
theorem dX10_spillCount_12 : decode cX10_spillCount 12 = .ok (.istore_n 2, 1) := by decide +kernel
theorem dX10_spillCount_13 : decode cX10_spillCount 13 = .ok (.iload_n 2, 1) := by decide +kernel
theorem dX10_spillCount_14 : decode cX10_spillCount 14 = .ok (.aload_n 0, 1) := by decide +kernel
theorem dX10_spillCount_15 : decode cX10_spillCount 15 = .ok (.invokevirtual 136, 3) := by decide +kernel
theorem dX10_spillCount_18 : decode cX10_spillCount 18 = .ok (.if_icmp .ge 28, 3) := by decide +kernel
theorem dX10_spillCount_21 : decode cX10_spillCount 21 = .ok (.iload_n 1, 1) := by decide +kernel
theorem dX10_spillCount_22 : decode cX10_spillCount 22 = .ok (.aload_n 0, 1) := by decide +kernel
theorem dX10_spillCount_23 : decode cX10_spillCount 23 = .ok (.iload_n 2, 1) := by decide +kernel
theorem dX10_spillCount_24 : decode cX10_spillCount 24 = .ok (.invokevirtual 145, 3) := by decide +kernel
theorem dX10_spillCount_27 : decode cX10_spillCount 27 = .ok (.ifCond .ne 7, 3) := by decide +kernel
theorem dX10_spillCount_30 : decode cX10_spillCount 30 = .ok (.iconst 1, 1) := by decide +kernel
theorem dX10_spillCount_31 : decode cX10_spillCount 31 = .ok (.goto 4, 3) := by decide +kernel
theorem dX10_spillCount_34 : decode cX10_spillCount 34 = .ok (.iconst 0, 1) := by decide +kernel
theorem dX10_spillCount_35 : decode cX10_spillCount 35 = .ok (.invokestatic 126, 3) := by decide +kernel
theorem dX10_spillCount_38 : decode cX10_spillCount 38 = .ok (.iadd, 1) := by decide +kernel
theorem dX10_spillCount_39 : decode cX10_spillCount 39 = .ok (.istore_n 1, 1) := by decide +kernel
theorem dX10_spillCount_40 : decode cX10_spillCount 40 = .ok (.iinc 2 1, 3) := by decide +kernel
theorem dX10_spillCount_43 : decode cX10_spillCount 43 = .ok (.goto (-30), 3) := by decide +kernel
theorem dX10_spillCount_46 : decode cX10_spillCount 46 = .ok (.iload_n 1, 1) := by decide +kernel
theorem dX10_spillCount_47 : decode cX10_spillCount 47 = .ok (.ireturn, 1) := by decide +kernel
set_option maxRecDepth 20000 in
theorem ggX10_recordCount_X10_look : GoodIn wsX10_recordCount wsX10_look := goodIn_ca (goodIn_r _ [5, 6, 7, 8, 9, 4, 10, 11, 12, 13, 14, 15, 16, 17, 18, 19, 20, 21, 22, 23, 24, 25, 26, 27, 28, 29, 30, 31, 32, 33, 34, 35, 36, 37, 38] (by decide +kernel) (by decide +kernel)) (goodIn_sub (fun _ h => List.mem_cons_of_mem _ (List.mem_append_right _ h)) (by decide +kernel))
set_option maxRecDepth 20000 in
theorem gX10_recordCount_X10_look : GoodIn wsX10_recordCount (wsV RX10 422 RX10 yX10_look wsX10_look) := goodIn_app (goodIn_of _ (by decide +kernel)) ggX10_recordCount_X10_look
theorem dX10_recordCount_0 : decode cX10_recordCount 0 = .ok (.aload_n 0, 1) := by decide +kernel
theorem dX10_recordCount_1 : decode cX10_recordCount 1 = .ok (.bipush 19, 2) := by decide +kernel
theorem dX10_recordCount_3 : decode cX10_recordCount 3 = .ok (.invokevirtual 422, 3) := by decide +kernel
theorem dX10_recordCount_6 : decode cX10_recordCount 6 = .ok (.ireturn, 1) := by decide +kernel
set_option maxRecDepth 20000 in
theorem ggX10_mayRank_X10_in : GoodIn wsX10_mayRank wsX10_in := goodIn_r _ [6] (by decide +kernel) (by decide +kernel)
set_option maxRecDepth 20000 in
theorem gX10_mayRank_X10_in : GoodIn wsX10_mayRank (va_wsS RX10 65 yX10_in wsX10_in) := goodIn_app (goodIn_of _ (by decide +kernel)) ggX10_mayRank_X10_in
set_option maxRecDepth 20000 in
theorem ggX10_mayRank_X10_mayTwo : GoodIn wsX10_mayRank wsX10_mayTwo := goodIn_r _ [10, 11, 12, 13, 5, 14, 15, 16, 17, 18, 19, 20, 21, 22, 23, 24, 25, 26, 27, 28, 29, 30, 31, 32, 33, 34, 35, 36, 37] (by decide +kernel) (by decide +kernel)
set_option maxRecDepth 20000 in
theorem gX10_mayRank_X10_mayTwo : GoodIn wsX10_mayRank (wsV RX10 428 RX10 yX10_mayTwo wsX10_mayTwo) := goodIn_app (goodIn_of _ (by decide +kernel)) ggX10_mayRank_X10_mayTwo
theorem dX10_mayRank_0 : decode cX10_mayRank 0 = .ok (.aload_n 0, 1) := by decide +kernel
theorem dX10_mayRank_1 : decode cX10_mayRank 1 = .ok (.aload_n 0, 1) := by decide +kernel
theorem dX10_mayRank_2 : decode cX10_mayRank 2 = .ok (.getfield 44, 3) := by decide +kernel
theorem dX10_mayRank_5 : decode cX10_mayRank 5 = .ok (.aload_n 0, 1) := by decide +kernel
theorem dX10_mayRank_6 : decode cX10_mayRank 6 = .ok (.getfield 44, 3) := by decide +kernel
theorem dX10_mayRank_9 : decode cX10_mayRank 9 = .ok (.ifCond .eq 24, 3) := by decide +kernel
theorem dX10_mayRank_12 : decode cX10_mayRank 12 = .ok (.iload_n 1, 1) := by decide +kernel
theorem dX10_mayRank_13 : decode cX10_mayRank 13 = .ok (.iconst 0, 1) := by decide +kernel
theorem dX10_mayRank_14 : decode cX10_mayRank 14 = .ok (.aload_n 0, 1) := by decide +kernel
theorem dX10_mayRank_15 : decode cX10_mayRank 15 = .ok (.getfield 9, 3) := by decide +kernel
theorem dX10_mayRank_18 : decode cX10_mayRank 18 = .ok (.bipush 19, 2) := by decide +kernel
theorem dX10_mayRank_20 : decode cX10_mayRank 20 = .ok (.iaload, 1) := by decide +kernel
theorem dX10_mayRank_21 : decode cX10_mayRank 21 = .ok (.iconst 1, 1) := by decide +kernel
theorem dX10_mayRank_22 : decode cX10_mayRank 22 = .ok (.isub, 1) := by decide +kernel
theorem dX10_mayRank_23 : decode cX10_mayRank 23 = .ok (.invokestatic 65, 3) := by decide +kernel
theorem dX10_mayRank_26 : decode cX10_mayRank 26 = .ok (.ifCond .eq 7, 3) := by decide +kernel
theorem dX10_mayRank_29 : decode cX10_mayRank 29 = .ok (.iconst 1, 1) := by decide +kernel
theorem dX10_mayRank_30 : decode cX10_mayRank 30 = .ok (.goto 4, 3) := by decide +kernel
theorem dX10_mayRank_33 : decode cX10_mayRank 33 = .ok (.iconst 0, 1) := by decide +kernel
theorem dX10_mayRank_34 : decode cX10_mayRank 34 = .ok (.invokevirtual 428, 3) := by decide +kernel
theorem dX10_mayRank_37 : decode cX10_mayRank 37 = .ok (.ireturn, 1) := by decide +kernel
set_option maxRecDepth 20000 in
theorem ggX10_recordNight_X10_mayRank : GoodIn wsX10_recordNight wsX10_mayRank := goodIn_ca (goodIn_r _ [6, 7, 1, 8, 9, 5, 10, 11, 12, 13, 14, 15, 16, 17, 18, 19, 20, 21, 22, 23, 24, 25, 26, 27, 28, 29, 30, 31, 32, 33, 34, 35, 36, 37, 38, 39, 40, 41] (by decide +kernel) (by decide +kernel)) (goodIn_sub (fun _ h => List.mem_cons_of_mem _ (List.mem_append_right _ h)) (by decide +kernel))
set_option maxRecDepth 20000 in
theorem gX10_recordNight_X10_mayRank : GoodIn wsX10_recordNight (wsV RX10 444 RX10 yX10_mayRank wsX10_mayRank) := goodIn_app (goodIn_of _ (by decide +kernel)) ggX10_recordNight_X10_mayRank
theorem dX10_recordNight_0 : decode cX10_recordNight 0 = .ok (.aload_n 0, 1) := by decide +kernel
theorem dX10_recordNight_1 : decode cX10_recordNight 1 = .ok (.iload_n 1, 1) := by decide +kernel
theorem dX10_recordNight_2 : decode cX10_recordNight 2 = .ok (.invokevirtual 444, 3) := by decide +kernel
theorem dX10_recordNight_5 : decode cX10_recordNight 5 = .ok (.ifCond .eq 18, 3) := by decide +kernel
theorem dX10_recordNight_8 : decode cX10_recordNight 8 = .ok (.aload_n 0, 1) := by decide +kernel
theorem dX10_recordNight_9 : decode cX10_recordNight 9 = .ok (.getfield 9, 3) := by decide +kernel
theorem dX10_recordNight_12 : decode cX10_recordNight 12 = .ok (.sipush 404, 3) := by decide +kernel
theorem dX10_recordNight_15 : decode cX10_recordNight 15 = .ok (.iconst 2, 1) := by decide +kernel
theorem dX10_recordNight_16 : decode cX10_recordNight 16 = .ok (.iload_n 1, 1) := by decide +kernel
theorem dX10_recordNight_17 : decode cX10_recordNight 17 = .ok (.imul, 1) := by decide +kernel
theorem dX10_recordNight_18 : decode cX10_recordNight 18 = .ok (.iadd, 1) := by decide +kernel
theorem dX10_recordNight_19 : decode cX10_recordNight 19 = .ok (.iaload, 1) := by decide +kernel
theorem dX10_recordNight_20 : decode cX10_recordNight 20 = .ok (.goto 4, 3) := by decide +kernel
theorem dX10_recordNight_23 : decode cX10_recordNight 23 = .ok (.iconst 0, 1) := by decide +kernel
theorem dX10_recordNight_24 : decode cX10_recordNight 24 = .ok (.ireturn, 1) := by decide +kernel
set_option maxRecDepth 20000 in
theorem ggX10_recordSteps_X10_mayRank : GoodIn wsX10_recordSteps wsX10_mayRank := goodIn_ca (goodIn_r _ [6, 7, 1, 8, 9, 5, 10, 11, 12, 13, 14, 15, 16, 17, 18, 19, 20, 21, 22, 23, 24, 25, 26, 27, 28, 29, 30, 31, 32, 33, 34, 35, 36, 37, 38, 39, 40, 41] (by decide +kernel) (by decide +kernel)) (goodIn_sub (fun _ h => List.mem_cons_of_mem _ (List.mem_append_right _ h)) (by decide +kernel))
set_option maxRecDepth 20000 in
theorem gX10_recordSteps_X10_mayRank : GoodIn wsX10_recordSteps (wsV RX10 444 RX10 yX10_mayRank wsX10_mayRank) := goodIn_app (goodIn_of _ (by decide +kernel)) ggX10_recordSteps_X10_mayRank
theorem dX10_recordSteps_0 : decode cX10_recordSteps 0 = .ok (.aload_n 0, 1) := by decide +kernel
theorem dX10_recordSteps_1 : decode cX10_recordSteps 1 = .ok (.iload_n 1, 1) := by decide +kernel
theorem dX10_recordSteps_2 : decode cX10_recordSteps 2 = .ok (.invokevirtual 444, 3) := by decide +kernel
theorem dX10_recordSteps_5 : decode cX10_recordSteps 5 = .ok (.ifCond .eq 20, 3) := by decide +kernel
theorem dX10_recordSteps_8 : decode cX10_recordSteps 8 = .ok (.aload_n 0, 1) := by decide +kernel
theorem dX10_recordSteps_9 : decode cX10_recordSteps 9 = .ok (.getfield 9, 3) := by decide +kernel
theorem dX10_recordSteps_12 : decode cX10_recordSteps 12 = .ok (.sipush 404, 3) := by decide +kernel
theorem dX10_recordSteps_15 : decode cX10_recordSteps 15 = .ok (.iconst 2, 1) := by decide +kernel
theorem dX10_recordSteps_16 : decode cX10_recordSteps 16 = .ok (.iload_n 1, 1) := by decide +kernel
theorem dX10_recordSteps_17 : decode cX10_recordSteps 17 = .ok (.imul, 1) := by decide +kernel
theorem dX10_recordSteps_18 : decode cX10_recordSteps 18 = .ok (.iadd, 1) := by decide +kernel
theorem dX10_recordSteps_19 : decode cX10_recordSteps 19 = .ok (.iconst 1, 1) := by decide +kernel
theorem dX10_recordSteps_20 : decode cX10_recordSteps 20 = .ok (.iadd, 1) := by decide +kernel
theorem dX10_recordSteps_21 : decode cX10_recordSteps 21 = .ok (.iaload, 1) := by decide +kernel
theorem dX10_recordSteps_22 : decode cX10_recordSteps 22 = .ok (.goto 4, 3) := by decide +kernel
theorem dX10_recordSteps_25 : decode cX10_recordSteps 25 = .ok (.iconst 0, 1) := by decide +kernel
theorem dX10_recordSteps_26 : decode cX10_recordSteps 26 = .ok (.ireturn, 1) := by decide +kernel
set_option maxRecDepth 20000 in
theorem ggX10_rankOf_X10_mayTwo : GoodIn wsX10_rankOf wsX10_mayTwo := goodIn_r _ [6, 7, 8, 9, 5, 10, 11, 17, 18, 19, 20, 21, 22, 23, 24, 25, 26, 27, 28, 29, 30, 31, 32, 33, 34, 35, 36, 37, 38] (by decide +kernel) (by decide +kernel)
set_option maxRecDepth 20000 in
theorem gX10_rankOf_X10_mayTwo : GoodIn wsX10_rankOf (wsV RX10 428 RX10 yX10_mayTwo wsX10_mayTwo) := goodIn_app (goodIn_of _ (by decide +kernel)) ggX10_rankOf_X10_mayTwo
set_option maxRecDepth 20000 in
theorem ggX10_rankOf_X10_placeOf : GoodIn wsX10_rankOf wsX10_placeOf := goodIn_ca (goodIn_r _ [15, 16, 17, 18, 19, 20, 21, 22, 23, 24, 25, 26, 27, 28, 29, 30, 31, 32, 33, 34, 35, 36, 37, 38] (by decide +kernel) (by decide +kernel)) (goodIn_sub (fun _ h => List.mem_cons_of_mem _ (List.mem_append_right _ h)) (by decide +kernel))
set_option maxRecDepth 20000 in
theorem gX10_rankOf_X10_placeOf : GoodIn wsX10_rankOf (wsV RX10 386 RX10 yX10_placeOf wsX10_placeOf) := goodIn_app (goodIn_of _ (by decide +kernel)) ggX10_rankOf_X10_placeOf
theorem dX10_rankOf_0 : decode cX10_rankOf 0 = .ok (.aload_n 0, 1) := by decide +kernel
theorem dX10_rankOf_1 : decode cX10_rankOf 1 = .ok (.aload_n 0, 1) := by decide +kernel
theorem dX10_rankOf_2 : decode cX10_rankOf 2 = .ok (.getfield 44, 3) := by decide +kernel
theorem dX10_rankOf_5 : decode cX10_rankOf 5 = .ok (.iload_n 1, 1) := by decide +kernel
theorem dX10_rankOf_6 : decode cX10_rankOf 6 = .ok (.iconst 1, 1) := by decide +kernel
theorem dX10_rankOf_7 : decode cX10_rankOf 7 = .ok (.if_icmp .lt 7, 3) := by decide +kernel
theorem dX10_rankOf_10 : decode cX10_rankOf 10 = .ok (.iconst 1, 1) := by decide +kernel
theorem dX10_rankOf_11 : decode cX10_rankOf 11 = .ok (.goto 4, 3) := by decide +kernel
theorem dX10_rankOf_14 : decode cX10_rankOf 14 = .ok (.iconst 0, 1) := by decide +kernel
theorem dX10_rankOf_15 : decode cX10_rankOf 15 = .ok (.invokevirtual 428, 3) := by decide +kernel
theorem dX10_rankOf_18 : decode cX10_rankOf 18 = .ok (.ifCond .ne 5, 3) := by decide +kernel
theorem dX10_rankOf_21 : decode cX10_rankOf 21 = .ok (.iconst 0, 1) := by decide +kernel
theorem dX10_rankOf_22 : decode cX10_rankOf 22 = .ok (.ireturn, 1) := by decide +kernel
theorem dX10_rankOf_23 : decode cX10_rankOf 23 = .ok (.aload_n 0, 1) := by decide +kernel
theorem dX10_rankOf_24 : decode cX10_rankOf 24 = .ok (.iload_n 1, 1) := by decide +kernel
theorem dX10_rankOf_25 : decode cX10_rankOf 25 = .ok (.invokevirtual 386, 3) := by decide +kernel
theorem dX10_rankOf_28 : decode cX10_rankOf 28 = .ok (.istore_n 2, 1) := by decide +kernel
theorem dX10_rankOf_29 : decode cX10_rankOf 29 = .ok (.iload_n 2, 1) := by decide +kernel
theorem dX10_rankOf_30 : decode cX10_rankOf 30 = .ok (.bipush 10, 2) := by decide +kernel
theorem dX10_rankOf_32 : decode cX10_rankOf 32 = .ok (.if_icmp .ne 7, 3) := by decide +kernel
theorem dX10_rankOf_35 : decode cX10_rankOf 35 = .ok (.iconst (-1), 1) := by decide +kernel
theorem dX10_rankOf_36 : decode cX10_rankOf 36 = .ok (.goto 4, 3) := by decide +kernel
theorem dX10_rankOf_39 : decode cX10_rankOf 39 = .ok (.iload_n 2, 1) := by decide +kernel
theorem dX10_rankOf_40 : decode cX10_rankOf 40 = .ok (.ireturn, 1) := by decide +kernel
set_option maxRecDepth 20000 in
theorem ggX10_allWear_X10_tiles : GoodIn wsX10_allWear wsX10_tiles := goodIn_ca (goodIn_r _ [6, 1, 7, 8, 9, 10, 11, 12, 13, 14, 15, 16, 17, 18, 19, 20, 21, 22, 23, 24, 25, 26, 27, 28] (by decide +kernel) (by decide +kernel)) (goodIn_sub (fun _ h => List.mem_cons_of_mem _ (List.mem_append_right _ h)) (by decide +kernel))
set_option maxRecDepth 20000 in
theorem gX10_allWear_X10_tiles : GoodIn wsX10_allWear (wsV RX10 136 RX10 yX10_tiles wsX10_tiles) := goodIn_app (goodIn_of _ (by decide +kernel)) ggX10_allWear_X10_tiles
theorem dX10_allWear_0 : decode cX10_allWear 0 = .ok (.iconst 0, 1) := by decide +kernel
theorem dX10_allWear_1 : decode cX10_allWear 1 = .ok (.istore_n 1, 1) := by decide +kernel
theorem dX10_allWear_2 : decode cX10_allWear 2 = .ok (.iconst 0, 1) := by decide +kernel
theorem dX10_allWear_3 : decode cX10_allWear 3 = .ok (.istore_n 2, 1) := by decide +kernel
theorem dX10_allWear_4 : decode cX10_allWear 4 = .ok (.iload_n 2, 1) := by decide +kernel
theorem dX10_allWear_5 : decode cX10_allWear 5 = .ok (.aload_n 0, 1) := by decide +kernel
theorem dX10_allWear_6 : decode cX10_allWear 6 = .ok (.invokevirtual 136, 3) := by decide +kernel
theorem dX10_allWear_9 : decode cX10_allWear 9 = .ok (.if_icmp .ge 22, 3) := by decide +kernel
theorem dX10_allWear_12 : decode cX10_allWear 12 = .ok (.iload_n 1, 1) := by decide +kernel
theorem dX10_allWear_13 : decode cX10_allWear 13 = .ok (.aload_n 0, 1) := by decide +kernel
theorem dX10_allWear_14 : decode cX10_allWear 14 = .ok (.getfield 9, 3) := by decide +kernel
theorem dX10_allWear_17 : decode cX10_allWear 17 = .ok (.sipush 324, 3) := by decide +kernel
theorem dX10_allWear_20 : decode cX10_allWear 20 = .ok (.iload_n 2, 1) := by decide +kernel
theorem dX10_allWear_21 : decode cX10_allWear 21 = .ok (.iadd, 1) := by decide +kernel
theorem dX10_allWear_22 : decode cX10_allWear 22 = .ok (.iaload, 1) := by decide +kernel
theorem dX10_allWear_23 : decode cX10_allWear 23 = .ok (.iadd, 1) := by decide +kernel
theorem dX10_allWear_24 : decode cX10_allWear 24 = .ok (.istore_n 1, 1) := by decide +kernel
theorem dX10_allWear_25 : decode cX10_allWear 25 = .ok (.iinc 2 1, 3) := by decide +kernel
theorem dX10_allWear_28 : decode cX10_allWear 28 = .ok (.goto (-24), 3) := by decide +kernel
theorem dX10_allWear_31 : decode cX10_allWear 31 = .ok (.iload_n 1, 1) := by decide +kernel
theorem dX10_allWear_32 : decode cX10_allWear 32 = .ok (.ireturn, 1) := by decide +kernel
set_option maxRecDepth 20000 in
theorem ggX10_imbalance_X10_mayLook : GoodIn wsX10_imbalance wsX10_mayLook := goodIn_r _ [10, 11, 12, 13, 14, 9, 15, 16, 28, 29, 30, 31, 32, 33, 34, 35, 36, 37, 38, 39, 40, 41, 42, 43, 44, 45, 46, 47, 48, 49] (by decide +kernel) (by decide +kernel)
set_option maxRecDepth 20000 in
theorem gX10_imbalance_X10_mayLook : GoodIn wsX10_imbalance (wsV RX10 419 RX10 yX10_mayLook wsX10_mayLook) := goodIn_app (goodIn_of _ (by decide +kernel)) ggX10_imbalance_X10_mayLook
set_option maxRecDepth 20000 in
theorem ggX10_imbalance_X10_allWear : GoodIn wsX10_imbalance wsX10_allWear := goodIn_ca (goodIn_r _ [20, 1, 21, 22, 23, 9, 24, 28, 29, 30, 31, 32, 33, 34, 35, 36, 37, 38, 39, 40, 41, 42, 43, 44, 45, 46, 47, 48, 49] (by decide +kernel) (by decide +kernel)) (goodIn_sub (fun _ h => List.mem_cons_of_mem _ (List.mem_append_right _ h)) (by decide +kernel))
set_option maxRecDepth 20000 in
theorem gX10_imbalance_X10_allWear : GoodIn wsX10_imbalance (wsV RX10 447 RX10 yX10_allWear wsX10_allWear) := goodIn_app (goodIn_of _ (by decide +kernel)) ggX10_imbalance_X10_allWear
set_option maxRecDepth 20000 in
theorem ggX10_imbalance_X10_one : GoodIn wsX10_imbalance wsX10_one := goodIn_r _ [27] (by decide +kernel) (by decide +kernel)
set_option maxRecDepth 20000 in
theorem gX10_imbalance_X10_one : GoodIn wsX10_imbalance (va_wsS RX10 126 yX10_one wsX10_one) := goodIn_app (goodIn_of _ (by decide +kernel)) ggX10_imbalance_X10_one
theorem dX10_imbalance_0 : decode cX10_imbalance 0 = .ok (.aload_n 0, 1) := by decide +kernel
theorem dX10_imbalance_1 : decode cX10_imbalance 1 = .ok (.invokevirtual 419, 3) := by decide +kernel
theorem dX10_imbalance_4 : decode cX10_imbalance 4 = .ok (.ifCond .eq 47, 3) := by decide +kernel
theorem dX10_imbalance_7 : decode cX10_imbalance 7 = .ok (.aload_n 0, 1) := by decide +kernel
theorem dX10_imbalance_8 : decode cX10_imbalance 8 = .ok (.invokevirtual 447, 3) := by decide +kernel
theorem dX10_imbalance_11 : decode cX10_imbalance 11 = .ok (.aload_n 0, 1) := by decide +kernel
theorem dX10_imbalance_12 : decode cX10_imbalance 12 = .ok (.getfield 9, 3) := by decide +kernel
theorem dX10_imbalance_15 : decode cX10_imbalance 15 = .ok (.bipush 12, 2) := by decide +kernel
theorem dX10_imbalance_17 : decode cX10_imbalance 17 = .ok (.iaload, 1) := by decide +kernel
theorem dX10_imbalance_18 : decode cX10_imbalance 18 = .ok (.isub, 1) := by decide +kernel
theorem dX10_imbalance_19 : decode cX10_imbalance 19 = .ok (.invokestatic 357, 3) := by decide +kernel
theorem dX10_imbalance_22 : decode cX10_imbalance 22 = .ok (.aload_n 0, 1) := by decide +kernel
theorem dX10_imbalance_23 : decode cX10_imbalance 23 = .ok (.getfield 9, 3) := by decide +kernel
theorem dX10_imbalance_26 : decode cX10_imbalance 26 = .ok (.bipush 13, 2) := by decide +kernel
theorem dX10_imbalance_28 : decode cX10_imbalance 28 = .ok (.iaload, 1) := by decide +kernel
theorem dX10_imbalance_29 : decode cX10_imbalance 29 = .ok (.aload_n 0, 1) := by decide +kernel
theorem dX10_imbalance_30 : decode cX10_imbalance 30 = .ok (.getfield 9, 3) := by decide +kernel
theorem dX10_imbalance_33 : decode cX10_imbalance 33 = .ok (.bipush 12, 2) := by decide +kernel
theorem dX10_imbalance_35 : decode cX10_imbalance 35 = .ok (.iaload, 1) := by decide +kernel
theorem dX10_imbalance_36 : decode cX10_imbalance 36 = .ok (.if_icmp .le 7, 3) := by decide +kernel
theorem dX10_imbalance_39 : decode cX10_imbalance 39 = .ok (.iconst 1, 1) := by decide +kernel
theorem dX10_imbalance_40 : decode cX10_imbalance 40 = .ok (.goto 4, 3) := by decide +kernel
theorem dX10_imbalance_43 : decode cX10_imbalance 43 = .ok (.iconst 0, 1) := by decide +kernel
theorem dX10_imbalance_44 : decode cX10_imbalance 44 = .ok (.invokestatic 126, 3) := by decide +kernel
theorem dX10_imbalance_47 : decode cX10_imbalance 47 = .ok (.iadd, 1) := by decide +kernel
theorem dX10_imbalance_48 : decode cX10_imbalance 48 = .ok (.goto 4, 3) := by decide +kernel
theorem dX10_imbalance_51 : decode cX10_imbalance 51 = .ok (.iconst 0, 1) := by decide +kernel
theorem dX10_imbalance_52 : decode cX10_imbalance 52 = .ok (.ireturn, 1) := by decide +kernel
set_option maxRecDepth 20000 in
theorem ggX10_averageWear_X10_mayLook : GoodIn wsX10_averageWear wsX10_mayLook := goodIn_r _ [5, 6, 7, 8, 9, 4, 10, 11, 21, 22, 23, 24, 25, 26, 27, 28, 29, 30, 31, 32, 33, 34, 35, 36, 37, 38, 39, 40, 41, 42] (by decide +kernel) (by decide +kernel)
set_option maxRecDepth 20000 in
theorem gX10_averageWear_X10_mayLook : GoodIn wsX10_averageWear (wsV RX10 419 RX10 yX10_mayLook wsX10_mayLook) := goodIn_app (goodIn_of _ (by decide +kernel)) ggX10_averageWear_X10_mayLook
set_option maxRecDepth 20000 in
theorem ggX10_averageWear_X10_allWear : GoodIn wsX10_averageWear wsX10_allWear := goodIn_ca (goodIn_r _ [15, 16, 17, 18, 19, 4, 20, 21, 22, 23, 24, 25, 26, 27, 28, 29, 30, 31, 32, 33, 34, 35, 36, 37, 38, 39, 40, 41, 42] (by decide +kernel) (by decide +kernel)) (goodIn_sub (fun _ h => List.mem_cons_of_mem _ (List.mem_append_right _ h)) (by decide +kernel))
set_option maxRecDepth 20000 in
theorem gX10_averageWear_X10_allWear : GoodIn wsX10_averageWear (wsV RX10 447 RX10 yX10_allWear wsX10_allWear) := goodIn_app (goodIn_of _ (by decide +kernel)) ggX10_averageWear_X10_allWear
set_option maxRecDepth 20000 in
theorem ggX10_averageWear_X10_tiles : GoodIn wsX10_averageWear wsX10_tiles := goodIn_ca (goodIn_r _ [20, 16, 21, 22, 23, 24, 25, 26, 27, 28, 29, 30, 31, 32, 33, 34, 35, 36, 37, 38, 39, 40, 41, 42] (by decide +kernel) (by decide +kernel)) (goodIn_sub (fun _ h => List.mem_cons_of_mem _ (List.mem_append_right _ h)) (by decide +kernel))
set_option maxRecDepth 20000 in
theorem gX10_averageWear_X10_tiles : GoodIn wsX10_averageWear (wsV RX10 136 RX10 yX10_tiles wsX10_tiles) := goodIn_app (goodIn_of _ (by decide +kernel)) ggX10_averageWear_X10_tiles
theorem dX10_averageWear_0 : decode cX10_averageWear 0 = .ok (.aload_n 0, 1) := by decide +kernel
theorem dX10_averageWear_1 : decode cX10_averageWear 1 = .ok (.invokevirtual 419, 3) := by decide +kernel
theorem dX10_averageWear_4 : decode cX10_averageWear 4 = .ok (.ifCond .eq 17, 3) := by decide +kernel
theorem dX10_averageWear_7 : decode cX10_averageWear 7 = .ok (.aload_n 0, 1) := by decide +kernel
theorem dX10_averageWear_8 : decode cX10_averageWear 8 = .ok (.invokevirtual 447, 3) := by decide +kernel
theorem dX10_averageWear_11 : decode cX10_averageWear 11 = .ok (.i2d, 1) := by decide +kernel
theorem dX10_averageWear_12 : decode cX10_averageWear 12 = .ok (.aload_n 0, 1) := by decide +kernel
theorem dX10_averageWear_13 : decode cX10_averageWear 13 = .ok (.invokevirtual 136, 3) := by decide +kernel
theorem dX10_averageWear_16 : decode cX10_averageWear 16 = .ok (.i2d, 1) := by decide +kernel
theorem dX10_averageWear_17 : decode cX10_averageWear 17 = .ok (.ddiv, 1) := by decide +kernel
theorem dX10_averageWear_18 : decode cX10_averageWear 18 = .ok (.goto 4, 3) := by decide +kernel
theorem dX10_averageWear_21 : decode cX10_averageWear 21 = .ok (.dconst 0, 1) := by decide +kernel
theorem dX10_averageWear_22 : decode cX10_averageWear 22 = .ok (.dreturn, 1) := by decide +kernel
set_option maxRecDepth 20000 in
theorem ggX10_litMany_X10_tiles : GoodIn wsX10_litMany wsX10_tiles := goodIn_ca (goodIn_r _ [5, 6, 37, 38, 39, 40, 41, 42, 43, 44, 45, 46, 47, 48, 49, 50, 51, 52, 53, 54, 55, 56, 57, 58] (by decide +kernel) (by decide +kernel)) (goodIn_sub (fun _ h => List.mem_cons_of_mem _ (List.mem_append_right _ h)) (by decide +kernel))
set_option maxRecDepth 20000 in
theorem gX10_litMany_X10_tiles : GoodIn wsX10_litMany (wsV RX10 136 RX10 yX10_tiles wsX10_tiles) := goodIn_app (goodIn_of _ (by decide +kernel)) ggX10_litMany_X10_tiles
set_option maxRecDepth 20000 in
theorem ggX10_litMany_X10_shinesOn : GoodIn wsX10_litMany wsX10_shinesOn := goodIn_ca (goodIn_r _ [10, 6, 11, 12, 13, 4, 14, 15, 16, 17, 18, 19, 20, 21, 22, 23, 24, 25, 26, 27, 28, 29, 30, 31, 32, 33, 37, 38, 39, 40, 41, 42, 43, 44, 45, 46, 47, 48, 49, 50, 51, 52, 53, 54, 55, 56, 57, 58] (by decide +kernel) (by decide +kernel)) (goodIn_sub (fun _ h => List.mem_cons_of_mem _ (List.mem_append_right _ h)) (by decide +kernel))
set_option maxRecDepth 20000 in
theorem gX10_litMany_X10_shinesOn : GoodIn wsX10_litMany (wsV RX10 392 RX10 yX10_shinesOn wsX10_shinesOn) := goodIn_app (goodIn_of _ (by decide +kernel)) ggX10_litMany_X10_shinesOn
set_option maxRecDepth 20000 in
theorem ggX10_litMany_X10_one : GoodIn wsX10_litMany wsX10_one := goodIn_r _ [36] (by decide +kernel) (by decide +kernel)
set_option maxRecDepth 20000 in
theorem gX10_litMany_X10_one : GoodIn wsX10_litMany (va_wsS RX10 126 yX10_one wsX10_one) := goodIn_app (goodIn_of _ (by decide +kernel)) ggX10_litMany_X10_one
theorem dX10_litMany_0 : decode cX10_litMany 0 = .ok (.iconst 0, 1) := by decide +kernel
theorem dX10_litMany_1 : decode cX10_litMany 1 = .ok (.istore_n 1, 1) := by decide +kernel
theorem dX10_litMany_2 : decode cX10_litMany 2 = .ok (.iconst 0, 1) := by decide +kernel
theorem dX10_litMany_3 : decode cX10_litMany 3 = .ok (.istore_n 2, 1) := by decide +kernel
theorem dX10_litMany_4 : decode cX10_litMany 4 = .ok (.iload_n 2, 1) := by decide +kernel
theorem dX10_litMany_5 : decode cX10_litMany 5 = .ok (.aload_n 0, 1) := by decide +kernel
theorem dX10_litMany_6 : decode cX10_litMany 6 = .ok (.invokevirtual 136, 3) := by decide +kernel
theorem dX10_litMany_9 : decode cX10_litMany 9 = .ok (.if_icmp .ge 20, 3) := by decide +kernel
theorem dX10_litMany_12 : decode cX10_litMany 12 = .ok (.iload_n 1, 1) := by decide +kernel
theorem dX10_litMany_13 : decode cX10_litMany 13 = .ok (.aload_n 0, 1) := by decide +kernel
theorem dX10_litMany_14 : decode cX10_litMany 14 = .ok (.iload_n 2, 1) := by decide +kernel
theorem dX10_litMany_15 : decode cX10_litMany 15 = .ok (.invokevirtual 392, 3) := by decide +kernel
theorem dX10_litMany_18 : decode cX10_litMany 18 = .ok (.invokestatic 126, 3) := by decide +kernel
theorem dX10_litMany_21 : decode cX10_litMany 21 = .ok (.iadd, 1) := by decide +kernel
theorem dX10_litMany_22 : decode cX10_litMany 22 = .ok (.istore_n 1, 1) := by decide +kernel
theorem dX10_litMany_23 : decode cX10_litMany 23 = .ok (.iinc 2 1, 3) := by decide +kernel
theorem dX10_litMany_26 : decode cX10_litMany 26 = .ok (.goto (-22), 3) := by decide +kernel
theorem dX10_litMany_29 : decode cX10_litMany 29 = .ok (.iload_n 1, 1) := by decide +kernel
theorem dX10_litMany_30 : decode cX10_litMany 30 = .ok (.ireturn, 1) := by decide +kernel
set_option maxRecDepth 20000 in
theorem ggX10_litShare_X10_mayLook : GoodIn wsX10_litShare wsX10_mayLook := goodIn_r _ [5, 6, 7, 8, 9, 4, 10, 11, 51, 52, 53, 54, 55, 56, 57, 58, 59, 60, 61, 62, 63, 64, 65, 66, 67, 68, 69, 70, 71, 72] (by decide +kernel) (by decide +kernel)
set_option maxRecDepth 20000 in
theorem gX10_litShare_X10_mayLook : GoodIn wsX10_litShare (wsV RX10 419 RX10 yX10_mayLook wsX10_mayLook) := goodIn_app (goodIn_of _ (by decide +kernel)) ggX10_litShare_X10_mayLook
set_option maxRecDepth 20000 in
theorem ggX10_litShare_X10_litMany : GoodIn wsX10_litShare wsX10_litMany := goodIn_ca (goodIn_r _ [15, 16, 17, 18, 4, 19, 20, 21, 22, 23, 24, 25, 26, 27, 28, 29, 30, 31, 32, 33, 34, 35, 36, 37, 38, 39, 40, 41, 42, 43, 44, 45, 46, 47, 48, 49, 50, 51, 52, 53, 54, 55, 56, 57, 58, 59, 60, 61, 62, 63, 64, 65, 66, 67, 68, 69, 70, 71, 72] (by decide +kernel) (by decide +kernel)) (goodIn_sub (fun _ h => List.mem_cons_of_mem _ (List.mem_append_right _ h)) (by decide +kernel))
set_option maxRecDepth 20000 in
theorem gX10_litShare_X10_litMany : GoodIn wsX10_litShare (wsV RX10 450 RX10 yX10_litMany wsX10_litMany) := goodIn_app (goodIn_of _ (by decide +kernel)) ggX10_litShare_X10_litMany
set_option maxRecDepth 20000 in
theorem ggX10_litShare_X10_tiles : GoodIn wsX10_litShare wsX10_tiles := goodIn_ca (goodIn_r _ [19, 20, 51, 52, 53, 54, 55, 56, 57, 58, 59, 60, 61, 62, 63, 64, 65, 66, 67, 68, 69, 70, 71, 72] (by decide +kernel) (by decide +kernel)) (goodIn_sub (fun _ h => List.mem_cons_of_mem _ (List.mem_append_right _ h)) (by decide +kernel))
set_option maxRecDepth 20000 in
theorem gX10_litShare_X10_tiles : GoodIn wsX10_litShare (wsV RX10 136 RX10 yX10_tiles wsX10_tiles) := goodIn_app (goodIn_of _ (by decide +kernel)) ggX10_litShare_X10_tiles
theorem dX10_litShare_0 : decode cX10_litShare 0 = .ok (.aload_n 0, 1) := by decide +kernel
theorem dX10_litShare_1 : decode cX10_litShare 1 = .ok (.invokevirtual 419, 3) := by decide +kernel
theorem dX10_litShare_4 : decode cX10_litShare 4 = .ok (.ifCond .eq 17, 3) := by decide +kernel
theorem dX10_litShare_7 : decode cX10_litShare 7 = .ok (.aload_n 0, 1) := by decide +kernel
theorem dX10_litShare_8 : decode cX10_litShare 8 = .ok (.invokevirtual 450, 3) := by decide +kernel
theorem dX10_litShare_11 : decode cX10_litShare 11 = .ok (.i2f, 1) := by decide +kernel
theorem dX10_litShare_12 : decode cX10_litShare 12 = .ok (.aload_n 0, 1) := by decide +kernel
theorem dX10_litShare_13 : decode cX10_litShare 13 = .ok (.invokevirtual 136, 3) := by decide +kernel
theorem dX10_litShare_16 : decode cX10_litShare 16 = .ok (.i2f, 1) := by decide +kernel
theorem dX10_litShare_17 : decode cX10_litShare 17 = .ok (.fdiv, 1) := by decide +kernel
theorem dX10_litShare_18 : decode cX10_litShare 18 = .ok (.goto 4, 3) := by decide +kernel
theorem dX10_litShare_21 : decode cX10_litShare 21 = .ok (.fconst 0, 1) := by decide +kernel
theorem dX10_litShare_22 : decode cX10_litShare 22 = .ok (.freturn, 1) := by decide +kernel
set_option maxRecDepth 20000 in
theorem ggX10_areMinutes_X10_in : GoodIn wsX10_areMinutes wsX10_in := goodIn_r _ [4] (by decide +kernel) (by decide +kernel)
set_option maxRecDepth 20000 in
theorem gX10_areMinutes_X10_in : GoodIn wsX10_areMinutes (va_wsS RX10 65 yX10_in wsX10_in) := goodIn_app (goodIn_of _ (by decide +kernel)) ggX10_areMinutes_X10_in
theorem dX10_areMinutes_0 : decode cX10_areMinutes 0 = .ok (.iload_n 0, 1) := by decide +kernel
theorem dX10_areMinutes_1 : decode cX10_areMinutes 1 = .ok (.iconst 0, 1) := by decide +kernel
theorem dX10_areMinutes_2 : decode cX10_areMinutes 2 = .ok (.sipush 300, 3) := by decide +kernel
theorem dX10_areMinutes_5 : decode cX10_areMinutes 5 = .ok (.invokestatic 65, 3) := by decide +kernel
theorem dX10_areMinutes_8 : decode cX10_areMinutes 8 = .ok (.ireturn, 1) := by decide +kernel
set_option maxRecDepth 20000 in
theorem ggX10_later_X10_thinks : GoodIn wsX10_later wsX10_thinks := goodIn_ca (goodIn_r _ [6, 1, 7, 8, 9, 5, 10, 151, 152, 153, 154, 155, 156, 157, 158, 159, 160, 161, 162, 163, 164, 165, 166, 167, 168, 169, 170, 171, 172] (by decide +kernel) (by decide +kernel)) (goodIn_sub (fun _ h => List.mem_cons_of_mem _ (List.mem_append_right _ h)) (by decide +kernel))
set_option maxRecDepth 20000 in
theorem gX10_later_X10_thinks : GoodIn wsX10_later (wsV RX10 318 RX10 yX10_thinks wsX10_thinks) := goodIn_app (goodIn_of _ (by decide +kernel)) ggX10_later_X10_thinks
set_option maxRecDepth 20000 in
theorem ggX10_later_X10_passesMany : GoodIn wsX10_later wsX10_passesMany := goodIn_ca (goodIn_r _ [14, 15, 16, 17, 5, 18, 1, 19, 20, 21, 22, 23, 24, 25, 26, 27, 28, 29, 30, 31, 32, 33, 34, 35, 36, 37, 38, 39, 40, 41, 42, 43, 44, 45, 46, 47, 48, 49, 50, 51, 52, 53, 54, 55, 56, 57, 58, 59, 60, 61, 62, 63, 64, 65, 66, 67, 68, 69, 70, 71, 72, 73, 74, 75, 76, 77, 78, 79, 80, 81, 82, 83, 84, 85, 86, 87, 88, 89, 90, 91, 92, 93, 94, 95, 96, 97, 98, 99, 100, 101, 102, 103, 104, 105, 106, 107, 108, 109, 110, 111, 112, 113, 114, 115, 116, 117, 118, 119, 120, 121, 122, 123, 124, 125, 126, 127, 128, 129, 130, 131, 132, 133, 134, 135, 136, 137, 138, 139, 140, 141, 142, 143, 144, 145, 146, 151, 152, 153, 154, 155, 156, 157, 158, 159, 160, 161, 162, 163, 164, 165, 166, 167, 168, 169, 170, 171, 172] (by decide +kernel) (by decide +kernel)) (goodIn_sub (fun _ h => List.mem_cons_of_mem _ (List.mem_append_right _ h)) (by decide +kernel))
set_option maxRecDepth 20000 in
theorem gX10_later_X10_passesMany : GoodIn wsX10_later (wsV RX10 239 RX10 yX10_passesMany wsX10_passesMany) := goodIn_app (goodIn_of _ (by decide +kernel)) ggX10_later_X10_passesMany
set_option maxRecDepth 20000 in
theorem ggX10_later_X10_back : GoodIn wsX10_later wsX10_back := goodIn_ca (goodIn_r _ [150, 7, 1, 8, 9, 5, 10, 151, 152, 153, 154, 155, 156, 157, 158, 159, 160, 161, 162, 163, 164, 165, 166, 167, 168, 169, 170, 171, 172] (by decide +kernel) (by decide +kernel)) (goodIn_sub (fun _ h => List.mem_cons_of_mem _ (List.mem_append_right _ h)) (by decide +kernel))
set_option maxRecDepth 20000 in
theorem gX10_later_X10_back : GoodIn wsX10_later (wsV RX10 327 RX10 yX10_back wsX10_back) := goodIn_app (goodIn_of _ (by decide +kernel)) ggX10_later_X10_back
theorem dX10_later_0 : decode cX10_later 0 = .ok (.aload_n 0, 1) := by decide +kernel
theorem dX10_later_1 : decode cX10_later 1 = .ok (.invokevirtual 318, 3) := by decide +kernel
theorem dX10_later_4 : decode cX10_later 4 = .ok (.aload_n 0, 1) := by decide +kernel
theorem dX10_later_5 : decode cX10_later 5 = .ok (.iload_n 2, 1) := by decide +kernel
theorem dX10_later_6 : decode cX10_later 6 = .ok (.invokevirtual 239, 3) := by decide +kernel
theorem dX10_later_9 : decode cX10_later 9 = .ok (.aload_n 0, 1) := by decide +kernel
theorem dX10_later_10 : decode cX10_later 10 = .ok (.aload_n 0, 1) := by decide +kernel
theorem dX10_later_11 : decode cX10_later 11 = .ok (.getfield 9, 3) := by decide +kernel
theorem dX10_later_14 : decode cX10_later 14 = .ok (.iload_n 1, 1) := by decide +kernel
theorem dX10_later_15 : decode cX10_later 15 = .ok (.iaload, 1) := by decide +kernel
theorem dX10_later_16 : decode cX10_later 16 = .ok (.invokevirtual 327, 3) := by decide +kernel
theorem dX10_later_19 : decode cX10_later 19 = .ok (.ireturn, 1) := by decide +kernel
set_option maxRecDepth 20000 in
theorem ggX10_stepsAfter_X10_areMinutes : GoodIn wsX10_stepsAfter wsX10_areMinutes := goodIn_r _ [5, 6, 7, 4, 8] (by decide +kernel) (by decide +kernel)
set_option maxRecDepth 20000 in
theorem gX10_stepsAfter_X10_areMinutes : GoodIn wsX10_stepsAfter (va_wsS RX10 453 yX10_areMinutes wsX10_areMinutes) := goodIn_app (goodIn_of _ (by decide +kernel)) ggX10_stepsAfter_X10_areMinutes
set_option maxRecDepth 20000 in
theorem ggX10_stepsAfter_X10_mayTwo : GoodIn wsX10_stepsAfter wsX10_mayTwo := goodIn_r _ [12, 13, 14, 15, 4, 16, 17, 168, 169, 170, 171, 172, 173, 174, 175, 176, 177, 178, 179, 180, 181, 182, 183, 184, 185, 186, 187, 188, 189] (by decide +kernel) (by decide +kernel)
set_option maxRecDepth 20000 in
theorem gX10_stepsAfter_X10_mayTwo : GoodIn wsX10_stepsAfter (wsV RX10 428 RX10 yX10_mayTwo wsX10_mayTwo) := goodIn_app (goodIn_of _ (by decide +kernel)) ggX10_stepsAfter_X10_mayTwo
set_option maxRecDepth 20000 in
theorem ggX10_stepsAfter_X10_later : GoodIn wsX10_stepsAfter wsX10_later := goodIn_ca (goodIn_r _ [21, 22, 23, 24, 25, 4, 26, 27, 28, 29, 30, 31, 32, 33, 34, 35, 36, 37, 38, 39, 40, 41, 42, 43, 44, 45, 46, 47, 48, 49, 50, 51, 52, 53, 54, 55, 56, 57, 58, 59, 60, 61, 62, 63, 64, 65, 66, 67, 68, 69, 70, 71, 72, 73, 74, 75, 76, 77, 78, 79, 80, 81, 82, 83, 84, 85, 86, 87, 88, 89, 90, 91, 92, 6, 7, 8, 93, 94, 95, 96, 97, 98, 99, 100, 101, 102, 103, 104, 105, 106, 107, 108, 109, 110, 111, 112, 113, 114, 115, 116, 117, 118, 119, 120, 121, 122, 123, 124, 125, 126, 127, 128, 129, 130, 131, 132, 133, 134, 135, 136, 137, 138, 139, 140, 141, 142, 143, 144, 145, 146, 147, 148, 149, 150, 151, 152, 153, 154, 155, 156, 157, 158, 159, 160, 161, 162, 163, 164, 165, 166, 167, 168, 169, 170, 171, 172, 173, 174, 175, 176, 177, 178, 179, 180, 181, 182, 183, 184, 185, 186, 187, 188, 189] (by decide +kernel) (by decide +kernel)) (goodIn_sub (fun _ h => List.mem_cons_of_mem _ (List.mem_append_right _ h)) (by decide +kernel))
set_option maxRecDepth 20000 in
theorem gX10_stepsAfter_X10_later : GoodIn wsX10_stepsAfter (wsV RX10 456 RX10 yX10_later wsX10_later) := goodIn_app (goodIn_of _ (by decide +kernel)) ggX10_stepsAfter_X10_later
