theorem dX10_stepsAfter_0 : decode cX10_stepsAfter 0 = .ok (.aload_n 0, 1) := by decide +kernel
theorem dX10_stepsAfter_1 : decode cX10_stepsAfter 1 = .ok (.aload_n 0, 1) := by decide +kernel
theorem dX10_stepsAfter_2 : decode cX10_stepsAfter 2 = .ok (.getfield 44, 3) := by decide +kernel
theorem dX10_stepsAfter_5 : decode cX10_stepsAfter 5 = .ok (.iload_n 1, 1) := by decide +kernel
theorem dX10_stepsAfter_6 : decode cX10_stepsAfter 6 = .ok (.invokestatic 453, 3) := by decide +kernel
theorem dX10_stepsAfter_9 : decode cX10_stepsAfter 9 = .ok (.invokevirtual 428, 3) := by decide +kernel
theorem dX10_stepsAfter_12 : decode cX10_stepsAfter 12 = .ok (.ifCond .eq 13, 3) := by decide +kernel
theorem dX10_stepsAfter_15 : decode cX10_stepsAfter 15 = .ok (.aload_n 0, 1) := by decide +kernel
theorem dX10_stepsAfter_16 : decode cX10_stepsAfter 16 = .ok (.bipush 12, 2) := by decide +kernel
theorem dX10_stepsAfter_18 : decode cX10_stepsAfter 18 = .ok (.iload_n 1, 1) := by decide +kernel
theorem dX10_stepsAfter_19 : decode cX10_stepsAfter 19 = .ok (.invokevirtual 456, 3) := by decide +kernel
theorem dX10_stepsAfter_22 : decode cX10_stepsAfter 22 = .ok (.goto 4, 3) := by decide +kernel
theorem dX10_stepsAfter_25 : decode cX10_stepsAfter 25 = .ok (.iconst 0, 1) := by decide +kernel
theorem dX10_stepsAfter_26 : decode cX10_stepsAfter 26 = .ok (.ireturn, 1) := by decide +kernel
set_option maxRecDepth 20000 in
theorem ggX10_walkerTileAfter_X10_areMinutes : GoodIn wsX10_walkerTileAfter wsX10_areMinutes := goodIn_r _ [5, 6, 7, 4, 8] (by decide +kernel) (by decide +kernel)
set_option maxRecDepth 20000 in
theorem gX10_walkerTileAfter_X10_areMinutes : GoodIn wsX10_walkerTileAfter (va_wsS RX10 453 yX10_areMinutes wsX10_areMinutes) := goodIn_app (goodIn_of _ (by decide +kernel)) ggX10_walkerTileAfter_X10_areMinutes
set_option maxRecDepth 20000 in
theorem ggX10_walkerTileAfter_X10_mayTwo : GoodIn wsX10_walkerTileAfter wsX10_mayTwo := goodIn_r _ [12, 13, 14, 15, 4, 16, 17, 168, 169, 170, 171, 172, 173, 174, 175, 176, 177, 178, 179, 180, 181, 182, 183, 184, 185, 186, 187, 188, 189] (by decide +kernel) (by decide +kernel)
set_option maxRecDepth 20000 in
theorem gX10_walkerTileAfter_X10_mayTwo : GoodIn wsX10_walkerTileAfter (wsV RX10 428 RX10 yX10_mayTwo wsX10_mayTwo) := goodIn_app (goodIn_of _ (by decide +kernel)) ggX10_walkerTileAfter_X10_mayTwo
set_option maxRecDepth 20000 in
theorem ggX10_walkerTileAfter_X10_later : GoodIn wsX10_walkerTileAfter wsX10_later := goodIn_ca (goodIn_r _ [21, 22, 23, 24, 25, 4, 26, 27, 28, 29, 30, 31, 32, 33, 34, 35, 36, 37, 38, 39, 40, 41, 42, 43, 44, 45, 46, 47, 48, 49, 50, 51, 52, 53, 54, 55, 56, 57, 58, 59, 60, 61, 62, 63, 64, 65, 66, 67, 68, 69, 70, 71, 72, 73, 74, 75, 76, 77, 78, 79, 80, 81, 82, 83, 84, 85, 86, 87, 88, 89, 90, 91, 92, 6, 7, 8, 93, 94, 95, 96, 97, 98, 99, 100, 101, 102, 103, 104, 105, 106, 107, 108, 109, 110, 111, 112, 113, 114, 115, 116, 117, 118, 119, 120, 121, 122, 123, 124, 125, 126, 127, 128, 129, 130, 131, 132, 133, 134, 135, 136, 137, 138, 139, 140, 141, 142, 143, 144, 145, 146, 147, 148, 149, 150, 151, 152, 153, 154, 155, 156, 157, 158, 159, 160, 161, 162, 163, 164, 165, 166, 167, 168, 169, 170, 171, 172, 173, 174, 175, 176, 177, 178, 179, 180, 181, 182, 183, 184, 185, 186, 187, 188, 189] (by decide +kernel) (by decide +kernel)) (goodIn_sub (fun _ h => List.mem_cons_of_mem _ (List.mem_append_right _ h)) (by decide +kernel))
set_option maxRecDepth 20000 in
theorem gX10_walkerTileAfter_X10_later : GoodIn wsX10_walkerTileAfter (wsV RX10 456 RX10 yX10_later wsX10_later) := goodIn_app (goodIn_of _ (by decide +kernel)) ggX10_walkerTileAfter_X10_later
theorem dX10_walkerTileAfter_0 : decode cX10_walkerTileAfter 0 = .ok (.aload_n 0, 1) := by decide +kernel
theorem dX10_walkerTileAfter_1 : decode cX10_walkerTileAfter 1 = .ok (.aload_n 0, 1) := by decide +kernel
theorem dX10_walkerTileAfter_2 : decode cX10_walkerTileAfter 2 = .ok (.getfield 44, 3) := by decide +kernel
theorem dX10_walkerTileAfter_5 : decode cX10_walkerTileAfter 5 = .ok (.iload_n 1, 1) := by decide +kernel
theorem dX10_walkerTileAfter_6 : decode cX10_walkerTileAfter 6 = .ok (.invokestatic 453, 3) := by decide +kernel
theorem dX10_walkerTileAfter_9 : decode cX10_walkerTileAfter 9 = .ok (.invokevirtual 428, 3) := by decide +kernel
theorem dX10_walkerTileAfter_12 : decode cX10_walkerTileAfter 12 = .ok (.ifCond .eq 13, 3) := by decide +kernel
theorem dX10_walkerTileAfter_15 : decode cX10_walkerTileAfter 15 = .ok (.aload_n 0, 1) := by decide +kernel
theorem dX10_walkerTileAfter_16 : decode cX10_walkerTileAfter 16 = .ok (.bipush 8, 2) := by decide +kernel
theorem dX10_walkerTileAfter_18 : decode cX10_walkerTileAfter 18 = .ok (.iload_n 1, 1) := by decide +kernel
theorem dX10_walkerTileAfter_19 : decode cX10_walkerTileAfter 19 = .ok (.invokevirtual 456, 3) := by decide +kernel
theorem dX10_walkerTileAfter_22 : decode cX10_walkerTileAfter 22 = .ok (.goto 4, 3) := by decide +kernel
theorem dX10_walkerTileAfter_25 : decode cX10_walkerTileAfter 25 = .ok (.iconst 0, 1) := by decide +kernel
theorem dX10_walkerTileAfter_26 : decode cX10_walkerTileAfter 26 = .ok (.ireturn, 1) := by decide +kernel
set_option maxRecDepth 20000 in
theorem ggX10_spillTimeAfter_X10_isTile : GoodIn wsX10_spillTimeAfter wsX10_isTile := goodIn_ca (goodIn_r _ [6, 1, 7, 8, 9, 5, 10, 11, 12, 13, 14, 168, 169, 170, 171, 172, 173, 174, 175, 176, 177, 178, 179, 180, 181, 182, 183, 184, 185, 186, 187, 188, 189] (by decide +kernel) (by decide +kernel)) (goodIn_sub (fun _ h => List.mem_cons_of_mem _ (List.mem_append_right _ h)) (by decide +kernel))
set_option maxRecDepth 20000 in
theorem gX10_spillTimeAfter_X10_isTile : GoodIn wsX10_spillTimeAfter (wsV RX10 425 RX10 yX10_isTile wsX10_isTile) := goodIn_app (goodIn_of _ (by decide +kernel)) ggX10_spillTimeAfter_X10_isTile
set_option maxRecDepth 20000 in
theorem ggX10_spillTimeAfter_X10_areMinutes : GoodIn wsX10_spillTimeAfter wsX10_areMinutes := goodIn_r _ [17, 12, 13, 5, 14] (by decide +kernel) (by decide +kernel)
set_option maxRecDepth 20000 in
theorem gX10_spillTimeAfter_X10_areMinutes : GoodIn wsX10_spillTimeAfter (va_wsS RX10 453 yX10_areMinutes wsX10_areMinutes) := goodIn_app (goodIn_of _ (by decide +kernel)) ggX10_spillTimeAfter_X10_areMinutes
set_option maxRecDepth 20000 in
theorem ggX10_spillTimeAfter_X10_may : GoodIn wsX10_spillTimeAfter wsX10_may := goodIn_r _ [21, 22, 168, 169, 170, 171, 172, 173, 174, 175, 176, 177, 178, 179, 180, 181, 182, 183, 184, 185, 186, 187, 188, 189] (by decide +kernel) (by decide +kernel)
set_option maxRecDepth 20000 in
theorem gX10_spillTimeAfter_X10_may : GoodIn wsX10_spillTimeAfter (wsV RX10 40 RX10 yX10_may wsX10_may) := goodIn_app (goodIn_of _ (by decide +kernel)) ggX10_spillTimeAfter_X10_may
set_option maxRecDepth 20000 in
theorem ggX10_spillTimeAfter_X10_later : GoodIn wsX10_spillTimeAfter wsX10_later := goodIn_ca (goodIn_r _ [26, 11, 27, 28, 29, 5, 30, 31, 32, 33, 34, 35, 36, 37, 38, 39, 40, 41, 42, 43, 44, 45, 46, 47, 48, 49, 50, 7, 8, 9, 10, 51, 52, 53, 54, 55, 56, 57, 58, 59, 60, 61, 62, 63, 64, 65, 66, 67, 68, 69, 70, 71, 72, 73, 74, 75, 76, 77, 78, 79, 80, 81, 82, 83, 84, 85, 86, 87, 88, 89, 90, 91, 92, 12, 13, 14, 93, 94, 95, 96, 97, 98, 99, 100, 101, 102, 103, 104, 105, 106, 107, 108, 109, 110, 111, 112, 113, 114, 115, 116, 117, 118, 119, 120, 121, 122, 123, 124, 125, 126, 127, 128, 129, 130, 131, 132, 133, 134, 135, 136, 137, 138, 139, 140, 141, 142, 143, 144, 145, 146, 147, 148, 149, 150, 151, 152, 153, 154, 155, 156, 157, 158, 159, 160, 161, 162, 163, 164, 165, 166, 167, 168, 169, 170, 171, 172, 173, 174, 175, 176, 177, 178, 179, 180, 181, 182, 183, 184, 185, 186, 187, 188, 189] (by decide +kernel) (by decide +kernel)) (goodIn_sub (fun _ h => List.mem_cons_of_mem _ (List.mem_append_right _ h)) (by decide +kernel))
set_option maxRecDepth 20000 in
theorem gX10_spillTimeAfter_X10_later : GoodIn wsX10_spillTimeAfter (wsV RX10 456 RX10 yX10_later wsX10_later) := goodIn_app (goodIn_of _ (by decide +kernel)) ggX10_spillTimeAfter_X10_later
theorem dX10_spillTimeAfter_0 : decode cX10_spillTimeAfter 0 = .ok (.aload_n 0, 1) := by decide +kernel
theorem dX10_spillTimeAfter_1 : decode cX10_spillTimeAfter 1 = .ok (.aload_n 0, 1) := by decide +kernel
theorem dX10_spillTimeAfter_2 : decode cX10_spillTimeAfter 2 = .ok (.getfield 44, 3) := by decide +kernel
theorem dX10_spillTimeAfter_5 : decode cX10_spillTimeAfter 5 = .ok (.aload_n 0, 1) := by decide +kernel
theorem dX10_spillTimeAfter_6 : decode cX10_spillTimeAfter 6 = .ok (.iload_n 1, 1) := by decide +kernel
theorem dX10_spillTimeAfter_7 : decode cX10_spillTimeAfter 7 = .ok (.invokevirtual 425, 3) := by decide +kernel
theorem dX10_spillTimeAfter_10 : decode cX10_spillTimeAfter 10 = .ok (.iload_n 2, 1) := by decide +kernel
theorem dX10_spillTimeAfter_11 : decode cX10_spillTimeAfter 11 = .ok (.invokestatic 453, 3) := by decide +kernel
theorem dX10_spillTimeAfter_14 : decode cX10_spillTimeAfter 14 = .ok (.invokevirtual 40, 3) := by decide +kernel
theorem dX10_spillTimeAfter_17 : decode cX10_spillTimeAfter 17 = .ok (.ifCond .eq 16, 3) := by decide +kernel
theorem dX10_spillTimeAfter_20 : decode cX10_spillTimeAfter 20 = .ok (.aload_n 0, 1) := by decide +kernel
theorem dX10_spillTimeAfter_21 : decode cX10_spillTimeAfter 21 = .ok (.sipush 244, 3) := by decide +kernel
theorem dX10_spillTimeAfter_24 : decode cX10_spillTimeAfter 24 = .ok (.iload_n 1, 1) := by decide +kernel
theorem dX10_spillTimeAfter_25 : decode cX10_spillTimeAfter 25 = .ok (.iadd, 1) := by decide +kernel
theorem dX10_spillTimeAfter_26 : decode cX10_spillTimeAfter 26 = .ok (.iload_n 2, 1) := by decide +kernel
theorem dX10_spillTimeAfter_27 : decode cX10_spillTimeAfter 27 = .ok (.invokevirtual 456, 3) := by decide +kernel
theorem dX10_spillTimeAfter_30 : decode cX10_spillTimeAfter 30 = .ok (.goto 4, 3) := by decide +kernel
theorem dX10_spillTimeAfter_33 : decode cX10_spillTimeAfter 33 = .ok (.iconst 0, 1) := by decide +kernel
theorem dX10_spillTimeAfter_34 : decode cX10_spillTimeAfter 34 = .ok (.ireturn, 1) := by decide +kernel
set_option maxRecDepth 20000 in
theorem ggX10_growsIn_X10_thinks : GoodIn wsX10_growsIn wsX10_thinks := goodIn_ca (goodIn_r _ [6, 1, 7, 8, 9, 5, 10, 147, 148, 149, 150, 151, 152, 153, 154, 155, 156, 157, 158, 159, 160, 161, 162, 163, 164, 165, 166, 167, 168] (by decide +kernel) (by decide +kernel)) (goodIn_sub (fun _ h => List.mem_cons_of_mem _ (List.mem_append_right _ h)) (by decide +kernel))
set_option maxRecDepth 20000 in
theorem gX10_growsIn_X10_thinks : GoodIn wsX10_growsIn (wsV RX10 318 RX10 yX10_thinks wsX10_thinks) := goodIn_app (goodIn_of _ (by decide +kernel)) ggX10_growsIn_X10_thinks
set_option maxRecDepth 20000 in
theorem ggX10_growsIn_X10_passes : GoodIn wsX10_growsIn wsX10_passes := goodIn_ca (goodIn_r _ [14, 1, 15, 16, 17, 5, 18, 19, 20, 21, 22, 23, 24, 25, 26, 27, 28, 29, 30, 31, 32, 33, 34, 35, 36, 37, 38, 39, 40, 41, 42, 43, 44, 45, 46, 47, 48, 49, 50, 51, 52, 53, 54, 55, 56, 57, 58, 59, 60, 61, 62, 63, 64, 65, 66, 67, 68, 69, 70, 71, 72, 73, 74, 75, 76, 77, 78, 79, 80, 81, 82, 83, 84, 85, 86, 87, 88, 89, 90, 91, 92, 93, 94, 95, 96, 97, 98, 99, 100, 101, 102, 103, 104, 105, 106, 107, 108, 109, 110, 111, 112, 113, 114, 115, 116, 117, 118, 119, 120, 121, 122, 123, 124, 125, 126, 127, 128, 129, 130, 131, 132, 133, 134, 135, 136, 137, 138, 139, 140, 141, 142, 147, 148, 149, 150, 151, 152, 153, 154, 155, 156, 157, 158, 159, 160, 161, 162, 163, 164, 165, 166, 167, 168] (by decide +kernel) (by decide +kernel)) (goodIn_sub (fun _ h => List.mem_cons_of_mem _ (List.mem_append_right _ h)) (by decide +kernel))
set_option maxRecDepth 20000 in
theorem gX10_growsIn_X10_passes : GoodIn wsX10_growsIn (wsV RX10 416 RX10 yX10_passes wsX10_passes) := goodIn_app (goodIn_of _ (by decide +kernel)) ggX10_growsIn_X10_passes
set_option maxRecDepth 20000 in
theorem ggX10_growsIn_X10_back : GoodIn wsX10_growsIn wsX10_back := goodIn_ca (goodIn_r _ [146, 7, 1, 8, 9, 5, 10, 147, 148, 149, 150, 151, 152, 153, 154, 155, 156, 157, 158, 159, 160, 161, 162, 163, 164, 165, 166, 167, 168] (by decide +kernel) (by decide +kernel)) (goodIn_sub (fun _ h => List.mem_cons_of_mem _ (List.mem_append_right _ h)) (by decide +kernel))
set_option maxRecDepth 20000 in
theorem gX10_growsIn_X10_back : GoodIn wsX10_growsIn (wsV RX10 327 RX10 yX10_back wsX10_back) := goodIn_app (goodIn_of _ (by decide +kernel)) ggX10_growsIn_X10_back
theorem dX10_growsIn_0 : decode cX10_growsIn 0 = .ok (.aload_n 0, 1) := by decide +kernel
theorem dX10_growsIn_1 : decode cX10_growsIn 1 = .ok (.getfield 9, 3) := by decide +kernel
theorem dX10_growsIn_4 : decode cX10_growsIn 4 = .ok (.iload_n 1, 1) := by decide +kernel
theorem dX10_growsIn_5 : decode cX10_growsIn 5 = .ok (.iaload, 1) := by decide +kernel
theorem dX10_growsIn_6 : decode cX10_growsIn 6 = .ok (.istore_n 2, 1) := by decide +kernel
theorem dX10_growsIn_7 : decode cX10_growsIn 7 = .ok (.iconst 0, 1) := by decide +kernel
theorem dX10_growsIn_8 : decode cX10_growsIn 8 = .ok (.istore_n 3, 1) := by decide +kernel
theorem dX10_growsIn_9 : decode cX10_growsIn 9 = .ok (.aload_n 0, 1) := by decide +kernel
theorem dX10_growsIn_10 : decode cX10_growsIn 10 = .ok (.invokevirtual 318, 3) := by decide +kernel
theorem dX10_growsIn_13 : decode cX10_growsIn 13 = .ok (.iload_n 3, 1) := by decide +kernel
theorem dX10_growsIn_14 : decode cX10_growsIn 14 = .ok (.sipush 500, 3) := by decide +kernel
theorem dX10_growsIn_17 : decode cX10_growsIn 17 = .ok (.if_icmp .ge 23, 3) := by decide +kernel
theorem dX10_growsIn_20 : decode cX10_growsIn 20 = .ok (.aload_n 0, 1) := by decide +kernel
theorem dX10_growsIn_21 : decode cX10_growsIn 21 = .ok (.getfield 9, 3) := by decide +kernel
theorem dX10_growsIn_24 : decode cX10_growsIn 24 = .ok (.iload_n 1, 1) := by decide +kernel
theorem dX10_growsIn_25 : decode cX10_growsIn 25 = .ok (.iaload, 1) := by decide +kernel
theorem dX10_growsIn_26 : decode cX10_growsIn 26 = .ok (.iload_n 2, 1) := by decide +kernel
theorem dX10_growsIn_27 : decode cX10_growsIn 27 = .ok (.if_icmp .gt 13, 3) := by decide +kernel
theorem dX10_growsIn_30 : decode cX10_growsIn 30 = .ok (.aload_n 0, 1) := by decide +kernel
theorem dX10_growsIn_31 : decode cX10_growsIn 31 = .ok (.invokevirtual 416, 3) := by decide +kernel
theorem dX10_growsIn_34 : decode cX10_growsIn 34 = .ok (.iinc 3 1, 3) := by decide +kernel
theorem dX10_growsIn_37 : decode cX10_growsIn 37 = .ok (.goto (-24), 3) := by decide +kernel
theorem dX10_growsIn_40 : decode cX10_growsIn 40 = .ok (.aload_n 0, 1) := by decide +kernel
theorem dX10_growsIn_41 : decode cX10_growsIn 41 = .ok (.aload_n 0, 1) := by decide +kernel
theorem dX10_growsIn_42 : decode cX10_growsIn 42 = .ok (.getfield 9, 3) := by decide +kernel
theorem dX10_growsIn_45 : decode cX10_growsIn 45 = .ok (.iload_n 1, 1) := by decide +kernel
theorem dX10_growsIn_46 : decode cX10_growsIn 46 = .ok (.iaload, 1) := by decide +kernel
theorem dX10_growsIn_47 : decode cX10_growsIn 47 = .ok (.iload_n 2, 1) := by decide +kernel
theorem dX10_growsIn_48 : decode cX10_growsIn 48 = .ok (.if_icmp .le 7, 3) := by decide +kernel
theorem dX10_growsIn_51 : decode cX10_growsIn 51 = .ok (.iload_n 3, 1) := by decide +kernel
theorem dX10_growsIn_52 : decode cX10_growsIn 52 = .ok (.goto 4, 3) := by decide +kernel
theorem dX10_growsIn_55 : decode cX10_growsIn 55 = .ok (.iconst (-1), 1) := by decide +kernel
theorem dX10_growsIn_56 : decode cX10_growsIn 56 = .ok (.invokevirtual 327, 3) := by decide +kernel
theorem dX10_growsIn_59 : decode cX10_growsIn 59 = .ok (.ireturn, 1) := by decide +kernel
set_option maxRecDepth 20000 in
theorem ggX10_minutesUntilStep_X10_mayTile : GoodIn wsX10_minutesUntilStep wsX10_mayTile := goodIn_ca (goodIn_r _ [5, 6, 7, 8, 9, 4, 10, 11, 12, 13, 14, 15, 16, 17, 18, 19, 20, 21, 22, 23, 24, 25, 26, 27, 169, 170, 171, 172, 173, 174, 175, 176, 177, 178, 179, 180, 181, 182, 183, 184, 185, 186, 187, 188, 189, 190] (by decide +kernel) (by decide +kernel)) (goodIn_sub (fun _ h => List.mem_cons_of_mem _ (List.mem_append_right _ h)) (by decide +kernel))
set_option maxRecDepth 20000 in
theorem gX10_minutesUntilStep_X10_mayTile : GoodIn wsX10_minutesUntilStep (wsV RX10 435 RX10 yX10_mayTile wsX10_mayTile) := goodIn_app (goodIn_of _ (by decide +kernel)) ggX10_minutesUntilStep_X10_mayTile
set_option maxRecDepth 20000 in
theorem ggX10_minutesUntilStep_X10_growsIn : GoodIn wsX10_minutesUntilStep wsX10_growsIn := goodIn_ca (goodIn_r _ [31, 15, 32, 33, 34, 4, 35, 36, 37, 38, 39, 40, 41, 42, 43, 44, 45, 46, 47, 48, 49, 50, 51, 11, 12, 13, 14, 52, 53, 54, 55, 56, 57, 58, 59, 60, 61, 62, 63, 64, 65, 66, 67, 68, 69, 70, 71, 72, 73, 74, 75, 76, 77, 78, 79, 80, 81, 82, 83, 84, 85, 86, 87, 88, 89, 90, 91, 92, 93, 16, 17, 18, 94, 95, 96, 97, 98, 99, 100, 101, 102, 103, 104, 105, 106, 107, 108, 109, 110, 111, 112, 113, 114, 115, 116, 117, 118, 119, 120, 121, 122, 123, 124, 125, 126, 127, 128, 129, 130, 131, 132, 133, 134, 135, 136, 137, 138, 139, 140, 141, 142, 143, 144, 145, 146, 147, 148, 149, 150, 151, 152, 153, 154, 155, 156, 157, 158, 159, 160, 161, 162, 163, 164, 165, 166, 167, 168, 169, 170, 171, 172, 173, 174, 175, 176, 177, 178, 179, 180, 181, 182, 183, 184, 185, 186, 187, 188, 189, 190] (by decide +kernel) (by decide +kernel)) (goodIn_sub (fun _ h => List.mem_cons_of_mem _ (List.mem_append_right _ h)) (by decide +kernel))
set_option maxRecDepth 20000 in
theorem gX10_minutesUntilStep_X10_growsIn : GoodIn wsX10_minutesUntilStep (wsV RX10 459 RX10 yX10_growsIn wsX10_growsIn) := goodIn_app (goodIn_of _ (by decide +kernel)) ggX10_minutesUntilStep_X10_growsIn
theorem dX10_minutesUntilStep_0 : decode cX10_minutesUntilStep 0 = .ok (.aload_n 0, 1) := by decide +kernel
theorem dX10_minutesUntilStep_1 : decode cX10_minutesUntilStep 1 = .ok (.iload_n 1, 1) := by decide +kernel
theorem dX10_minutesUntilStep_2 : decode cX10_minutesUntilStep 2 = .ok (.invokevirtual 435, 3) := by decide +kernel
theorem dX10_minutesUntilStep_5 : decode cX10_minutesUntilStep 5 = .ok (.ifCond .eq 15, 3) := by decide +kernel
theorem dX10_minutesUntilStep_8 : decode cX10_minutesUntilStep 8 = .ok (.aload_n 0, 1) := by decide +kernel
theorem dX10_minutesUntilStep_9 : decode cX10_minutesUntilStep 9 = .ok (.sipush 324, 3) := by decide +kernel
theorem dX10_minutesUntilStep_12 : decode cX10_minutesUntilStep 12 = .ok (.iload_n 1, 1) := by decide +kernel
theorem dX10_minutesUntilStep_13 : decode cX10_minutesUntilStep 13 = .ok (.iadd, 1) := by decide +kernel
theorem dX10_minutesUntilStep_14 : decode cX10_minutesUntilStep 14 = .ok (.invokevirtual 459, 3) := by decide +kernel
theorem dX10_minutesUntilStep_17 : decode cX10_minutesUntilStep 17 = .ok (.goto 4, 3) := by decide +kernel
theorem dX10_minutesUntilStep_20 : decode cX10_minutesUntilStep 20 = .ok (.iconst 0, 1) := by decide +kernel
theorem dX10_minutesUntilStep_21 : decode cX10_minutesUntilStep 21 = .ok (.ireturn, 1) := by decide +kernel
set_option maxRecDepth 20000 in
theorem ggX10_minutesUntilFall_X10_mayLook : GoodIn wsX10_minutesUntilFall wsX10_mayLook := goodIn_r _ [5, 6, 7, 8, 9, 4, 10, 11, 161, 162, 163, 164, 165, 166, 167, 168, 169, 170, 171, 172, 173, 174, 175, 176, 177, 178, 179, 180, 181, 182] (by decide +kernel) (by decide +kernel)
set_option maxRecDepth 20000 in
theorem gX10_minutesUntilFall_X10_mayLook : GoodIn wsX10_minutesUntilFall (wsV RX10 419 RX10 yX10_mayLook wsX10_mayLook) := goodIn_app (goodIn_of _ (by decide +kernel)) ggX10_minutesUntilFall_X10_mayLook
set_option maxRecDepth 20000 in
theorem ggX10_minutesUntilFall_X10_growsIn : GoodIn wsX10_minutesUntilFall wsX10_growsIn := goodIn_ca (goodIn_r _ [15, 16, 17, 18, 19, 4, 20, 21, 22, 23, 24, 25, 26, 27, 28, 29, 30, 31, 32, 33, 34, 35, 36, 37, 38, 39, 40, 41, 42, 43, 44, 45, 46, 47, 48, 49, 50, 51, 52, 53, 54, 55, 56, 57, 58, 59, 60, 61, 62, 63, 64, 65, 66, 67, 68, 69, 70, 71, 72, 73, 74, 75, 76, 77, 78, 79, 80, 81, 82, 83, 84, 85, 86, 87, 88, 89, 90, 91, 92, 93, 94, 95, 96, 97, 98, 99, 100, 101, 102, 103, 104, 105, 106, 107, 108, 109, 110, 111, 112, 113, 114, 115, 116, 117, 118, 119, 120, 121, 122, 123, 124, 125, 126, 127, 128, 129, 130, 131, 132, 133, 134, 135, 136, 137, 138, 139, 140, 141, 142, 143, 144, 145, 146, 147, 148, 149, 150, 151, 152, 153, 154, 155, 156, 157, 158, 159, 160, 161, 162, 163, 164, 165, 166, 167, 168, 169, 170, 171, 172, 173, 174, 175, 176, 177, 178, 179, 180, 181, 182] (by decide +kernel) (by decide +kernel)) (goodIn_sub (fun _ h => List.mem_cons_of_mem _ (List.mem_append_right _ h)) (by decide +kernel))
set_option maxRecDepth 20000 in
theorem gX10_minutesUntilFall_X10_growsIn : GoodIn wsX10_minutesUntilFall (wsV RX10 459 RX10 yX10_growsIn wsX10_growsIn) := goodIn_app (goodIn_of _ (by decide +kernel)) ggX10_minutesUntilFall_X10_growsIn
theorem dX10_minutesUntilFall_0 : decode cX10_minutesUntilFall 0 = .ok (.aload_n 0, 1) := by decide +kernel
theorem dX10_minutesUntilFall_1 : decode cX10_minutesUntilFall 1 = .ok (.invokevirtual 419, 3) := by decide +kernel
theorem dX10_minutesUntilFall_4 : decode cX10_minutesUntilFall 4 = .ok (.ifCond .eq 12, 3) := by decide +kernel
theorem dX10_minutesUntilFall_7 : decode cX10_minutesUntilFall 7 = .ok (.aload_n 0, 1) := by decide +kernel
theorem dX10_minutesUntilFall_8 : decode cX10_minutesUntilFall 8 = .ok (.bipush 15, 2) := by decide +kernel
theorem dX10_minutesUntilFall_10 : decode cX10_minutesUntilFall 10 = .ok (.invokevirtual 459, 3) := by decide +kernel
theorem dX10_minutesUntilFall_13 : decode cX10_minutesUntilFall 13 = .ok (.goto 4, 3) := by decide +kernel
theorem dX10_minutesUntilFall_16 : decode cX10_minutesUntilFall 16 = .ok (.iconst 0, 1) := by decide +kernel
theorem dX10_minutesUntilFall_17 : decode cX10_minutesUntilFall 17 = .ok (.ireturn, 1) := by decide +kernel
set_option maxRecDepth 20000 in
theorem ggX10_isPace_X10_in : GoodIn wsX10_isPace wsX10_in := goodIn_r _ [4] (by decide +kernel) (by decide +kernel)
set_option maxRecDepth 20000 in
theorem gX10_isPace_X10_in : GoodIn wsX10_isPace (va_wsS RX10 65 yX10_in wsX10_in) := goodIn_app (goodIn_of _ (by decide +kernel)) ggX10_isPace_X10_in
theorem dX10_isPace_0 : decode cX10_isPace 0 = .ok (.iload_n 0, 1) := by decide +kernel
theorem dX10_isPace_1 : decode cX10_isPace 1 = .ok (.iconst 1, 1) := by decide +kernel
theorem dX10_isPace_2 : decode cX10_isPace 2 = .ok (.iconst 5, 1) := by decide +kernel
theorem dX10_isPace_3 : decode cX10_isPace 3 = .ok (.invokestatic 65, 3) := by decide +kernel
theorem dX10_isPace_6 : decode cX10_isPace 6 = .ok (.ireturn, 1) := by decide +kernel
set_option maxRecDepth 20000 in
theorem ggX10_stepsWith_X10_thinks : GoodIn wsX10_stepsWith wsX10_thinks := goodIn_ca (goodIn_r _ [6, 1, 7, 8, 9, 5, 10, 151, 152, 153, 154, 155, 156, 157, 158, 159, 160, 161, 162, 163, 164, 165, 166, 167, 168, 169, 170, 171, 172] (by decide +kernel) (by decide +kernel)) (goodIn_sub (fun _ h => List.mem_cons_of_mem _ (List.mem_append_right _ h)) (by decide +kernel))
set_option maxRecDepth 20000 in
theorem gX10_stepsWith_X10_thinks : GoodIn wsX10_stepsWith (wsV RX10 318 RX10 yX10_thinks wsX10_thinks) := goodIn_app (goodIn_of _ (by decide +kernel)) ggX10_stepsWith_X10_thinks
set_option maxRecDepth 20000 in
theorem ggX10_stepsWith_X10_passesMany : GoodIn wsX10_stepsWith wsX10_passesMany := goodIn_ca (goodIn_r _ [14, 15, 16, 17, 5, 18, 1, 19, 20, 21, 22, 23, 24, 25, 26, 27, 28, 29, 30, 31, 32, 33, 34, 35, 36, 37, 38, 39, 40, 41, 42, 43, 44, 45, 46, 47, 48, 49, 50, 51, 52, 53, 54, 55, 56, 57, 58, 59, 60, 61, 62, 63, 64, 65, 66, 67, 68, 69, 70, 71, 72, 73, 74, 75, 76, 77, 78, 79, 80, 81, 82, 83, 84, 85, 86, 87, 88, 89, 90, 91, 92, 93, 94, 95, 96, 97, 98, 99, 100, 101, 102, 103, 104, 105, 106, 107, 108, 109, 110, 111, 112, 113, 114, 115, 116, 117, 118, 119, 120, 121, 122, 123, 124, 125, 126, 127, 128, 129, 130, 131, 132, 133, 134, 135, 136, 137, 138, 139, 140, 141, 142, 143, 144, 145, 146, 151, 152, 153, 154, 155, 156, 157, 158, 159, 160, 161, 162, 163, 164, 165, 166, 167, 168, 169, 170, 171, 172] (by decide +kernel) (by decide +kernel)) (goodIn_sub (fun _ h => List.mem_cons_of_mem _ (List.mem_append_right _ h)) (by decide +kernel))
set_option maxRecDepth 20000 in
theorem gX10_stepsWith_X10_passesMany : GoodIn wsX10_stepsWith (wsV RX10 239 RX10 yX10_passesMany wsX10_passesMany) := goodIn_app (goodIn_of _ (by decide +kernel)) ggX10_stepsWith_X10_passesMany
set_option maxRecDepth 20000 in
theorem ggX10_stepsWith_X10_back : GoodIn wsX10_stepsWith wsX10_back := goodIn_ca (goodIn_r _ [150, 7, 1, 8, 9, 5, 10, 151, 152, 153, 154, 155, 156, 157, 158, 159, 160, 161, 162, 163, 164, 165, 166, 167, 168, 169, 170, 171, 172] (by decide +kernel) (by decide +kernel)) (goodIn_sub (fun _ h => List.mem_cons_of_mem _ (List.mem_append_right _ h)) (by decide +kernel))
set_option maxRecDepth 20000 in
theorem gX10_stepsWith_X10_back : GoodIn wsX10_stepsWith (wsV RX10 327 RX10 yX10_back wsX10_back) := goodIn_app (goodIn_of _ (by decide +kernel)) ggX10_stepsWith_X10_back
theorem dX10_stepsWith_0 : decode cX10_stepsWith 0 = .ok (.aload_n 0, 1) := by decide +kernel
theorem dX10_stepsWith_1 : decode cX10_stepsWith 1 = .ok (.invokevirtual 318, 3) := by decide +kernel
theorem dX10_stepsWith_4 : decode cX10_stepsWith 4 = .ok (.aload_n 0, 1) := by decide +kernel
theorem dX10_stepsWith_5 : decode cX10_stepsWith 5 = .ok (.getfield 9, 3) := by decide +kernel
theorem dX10_stepsWith_8 : decode cX10_stepsWith 8 = .ok (.iload_n 1, 1) := by decide +kernel
theorem dX10_stepsWith_9 : decode cX10_stepsWith 9 = .ok (.iload_n 2, 1) := by decide +kernel
theorem dX10_stepsWith_10 : decode cX10_stepsWith 10 = .ok (.iastore, 1) := by decide +kernel
theorem dX10_stepsWith_11 : decode cX10_stepsWith 11 = .ok (.aload_n 0, 1) := by decide +kernel
theorem dX10_stepsWith_12 : decode cX10_stepsWith 12 = .ok (.iload_n 3, 1) := by decide +kernel
theorem dX10_stepsWith_13 : decode cX10_stepsWith 13 = .ok (.invokevirtual 239, 3) := by decide +kernel
theorem dX10_stepsWith_16 : decode cX10_stepsWith 16 = .ok (.aload_n 0, 1) := by decide +kernel
theorem dX10_stepsWith_17 : decode cX10_stepsWith 17 = .ok (.aload_n 0, 1) := by decide +kernel
theorem dX10_stepsWith_18 : decode cX10_stepsWith 18 = .ok (.getfield 9, 3) := by decide +kernel
theorem dX10_stepsWith_21 : decode cX10_stepsWith 21 = .ok (.bipush 12, 2) := by decide +kernel
theorem dX10_stepsWith_23 : decode cX10_stepsWith 23 = .ok (.iaload, 1) := by decide +kernel
theorem dX10_stepsWith_24 : decode cX10_stepsWith 24 = .ok (.invokevirtual 327, 3) := by decide +kernel
theorem dX10_stepsWith_27 : decode cX10_stepsWith 27 = .ok (.ireturn, 1) := by decide +kernel
set_option maxRecDepth 20000 in
theorem ggX10_stepsAtPace_X10_isPace : GoodIn wsX10_stepsAtPace wsX10_isPace := goodIn_r _ [5, 6, 7, 4, 8] (by decide +kernel) (by decide +kernel)
set_option maxRecDepth 20000 in
theorem gX10_stepsAtPace_X10_isPace : GoodIn wsX10_stepsAtPace (va_wsS RX10 462 yX10_isPace wsX10_isPace) := goodIn_app (goodIn_of _ (by decide +kernel)) ggX10_stepsAtPace_X10_isPace
set_option maxRecDepth 20000 in
theorem ggX10_stepsAtPace_X10_areMinutes : GoodIn wsX10_stepsAtPace wsX10_areMinutes := goodIn_r _ [11, 6, 7, 4, 8] (by decide +kernel) (by decide +kernel)
set_option maxRecDepth 20000 in
theorem gX10_stepsAtPace_X10_areMinutes : GoodIn wsX10_stepsAtPace (va_wsS RX10 453 yX10_areMinutes wsX10_areMinutes) := goodIn_app (goodIn_of _ (by decide +kernel)) ggX10_stepsAtPace_X10_areMinutes
set_option maxRecDepth 20000 in
theorem ggX10_stepsAtPace_X10_mayTwo : GoodIn wsX10_stepsAtPace wsX10_mayTwo := goodIn_r _ [15, 16, 17, 18, 4, 19, 20, 171, 172, 173, 174, 175, 176, 177, 178, 179, 180, 181, 182, 183, 184, 185, 186, 187, 188, 189, 190, 191, 192] (by decide +kernel) (by decide +kernel)
set_option maxRecDepth 20000 in
theorem gX10_stepsAtPace_X10_mayTwo : GoodIn wsX10_stepsAtPace (wsV RX10 428 RX10 yX10_mayTwo wsX10_mayTwo) := goodIn_app (goodIn_of _ (by decide +kernel)) ggX10_stepsAtPace_X10_mayTwo
set_option maxRecDepth 20000 in
theorem ggX10_stepsAtPace_X10_stepsWith : GoodIn wsX10_stepsAtPace wsX10_stepsWith := goodIn_ca (goodIn_r _ [24, 25, 26, 27, 28, 4, 29, 30, 31, 32, 33, 34, 35, 36, 37, 38, 39, 40, 41, 42, 43, 44, 45, 46, 47, 48, 49, 50, 51, 52, 53, 54, 55, 56, 57, 58, 59, 60, 61, 62, 63, 64, 65, 66, 67, 68, 69, 70, 71, 72, 73, 74, 75, 76, 77, 78, 79, 80, 81, 82, 83, 84, 85, 86, 87, 88, 89, 90, 91, 92, 93, 94, 95, 6, 7, 8, 96, 97, 98, 99, 100, 101, 102, 103, 104, 105, 106, 107, 108, 109, 110, 111, 112, 113, 114, 115, 116, 117, 118, 119, 120, 121, 122, 123, 124, 125, 126, 127, 128, 129, 130, 131, 132, 133, 134, 135, 136, 137, 138, 139, 140, 141, 142, 143, 144, 145, 146, 147, 148, 149, 150, 151, 152, 153, 154, 155, 156, 157, 158, 159, 160, 161, 162, 163, 164, 165, 166, 167, 168, 169, 170, 171, 172, 173, 174, 175, 176, 177, 178, 179, 180, 181, 182, 183, 184, 185, 186, 187, 188, 189, 190, 191, 192] (by decide +kernel) (by decide +kernel)) (goodIn_sub (fun _ h => List.mem_cons_of_mem _ (List.mem_append_right _ h)) (by decide +kernel))
set_option maxRecDepth 20000 in
theorem gX10_stepsAtPace_X10_stepsWith : GoodIn wsX10_stepsAtPace (wsV RX10 465 RX10 yX10_stepsWith wsX10_stepsWith) := goodIn_app (goodIn_of _ (by decide +kernel)) ggX10_stepsAtPace_X10_stepsWith
theorem dX10_stepsAtPace_0 : decode cX10_stepsAtPace 0 = .ok (.aload_n 0, 1) := by decide +kernel
theorem dX10_stepsAtPace_1 : decode cX10_stepsAtPace 1 = .ok (.aload_n 0, 1) := by decide +kernel
theorem dX10_stepsAtPace_2 : decode cX10_stepsAtPace 2 = .ok (.getfield 44, 3) := by decide +kernel
theorem dX10_stepsAtPace_5 : decode cX10_stepsAtPace 5 = .ok (.iload_n 1, 1) := by decide +kernel
theorem dX10_stepsAtPace_6 : decode cX10_stepsAtPace 6 = .ok (.invokestatic 462, 3) := by decide +kernel
theorem dX10_stepsAtPace_9 : decode cX10_stepsAtPace 9 = .ok (.ifCond .eq 14, 3) := by decide +kernel
theorem dX10_stepsAtPace_12 : decode cX10_stepsAtPace 12 = .ok (.iload_n 2, 1) := by decide +kernel
theorem dX10_stepsAtPace_13 : decode cX10_stepsAtPace 13 = .ok (.invokestatic 453, 3) := by decide +kernel
theorem dX10_stepsAtPace_16 : decode cX10_stepsAtPace 16 = .ok (.ifCond .eq 7, 3) := by decide +kernel
theorem dX10_stepsAtPace_19 : decode cX10_stepsAtPace 19 = .ok (.iconst 1, 1) := by decide +kernel
theorem dX10_stepsAtPace_20 : decode cX10_stepsAtPace 20 = .ok (.goto 4, 3) := by decide +kernel
theorem dX10_stepsAtPace_23 : decode cX10_stepsAtPace 23 = .ok (.iconst 0, 1) := by decide +kernel
theorem dX10_stepsAtPace_24 : decode cX10_stepsAtPace 24 = .ok (.invokevirtual 428, 3) := by decide +kernel
theorem dX10_stepsAtPace_27 : decode cX10_stepsAtPace 27 = .ok (.ifCond .eq 13, 3) := by decide +kernel
theorem dX10_stepsAtPace_30 : decode cX10_stepsAtPace 30 = .ok (.aload_n 0, 1) := by decide +kernel
theorem dX10_stepsAtPace_31 : decode cX10_stepsAtPace 31 = .ok (.iconst 3, 1) := by decide +kernel
theorem dX10_stepsAtPace_32 : decode cX10_stepsAtPace 32 = .ok (.iload_n 1, 1) := by decide +kernel
theorem dX10_stepsAtPace_33 : decode cX10_stepsAtPace 33 = .ok (.iload_n 2, 1) := by decide +kernel
theorem dX10_stepsAtPace_34 : decode cX10_stepsAtPace 34 = .ok (.invokevirtual 465, 3) := by decide +kernel
theorem dX10_stepsAtPace_37 : decode cX10_stepsAtPace 37 = .ok (.goto 4, 3) := by decide +kernel
theorem dX10_stepsAtPace_40 : decode cX10_stepsAtPace 40 = .ok (.iconst 0, 1) := by decide +kernel
theorem dX10_stepsAtPace_41 : decode cX10_stepsAtPace 41 = .ok (.ireturn, 1) := by decide +kernel
set_option maxRecDepth 20000 in
theorem ggX10_bestPace_X10_areMinutes : GoodIn wsX10_bestPace wsX10_areMinutes := goodIn_r _ [5, 6, 7, 4, 8] (by decide +kernel) (by decide +kernel)
set_option maxRecDepth 20000 in
theorem gX10_bestPace_X10_areMinutes : GoodIn wsX10_bestPace (va_wsS RX10 453 yX10_areMinutes wsX10_areMinutes) := goodIn_app (goodIn_of _ (by decide +kernel)) ggX10_bestPace_X10_areMinutes
set_option maxRecDepth 20000 in
theorem ggX10_bestPace_X10_mayTwo : GoodIn wsX10_bestPace wsX10_mayTwo := goodIn_r _ [12, 13, 14, 15, 4, 16, 17, 171, 172, 173, 174, 175, 176, 177, 178, 179, 180, 181, 182, 183, 184, 185, 186, 187, 188, 189, 190, 191, 192] (by decide +kernel) (by decide +kernel)
set_option maxRecDepth 20000 in
theorem gX10_bestPace_X10_mayTwo : GoodIn wsX10_bestPace (wsV RX10 428 RX10 yX10_mayTwo wsX10_mayTwo) := goodIn_app (goodIn_of _ (by decide +kernel)) ggX10_bestPace_X10_mayTwo
set_option maxRecDepth 20000 in
theorem ggX10_bestPace_X10_isPace : GoodIn wsX10_bestPace wsX10_isPace := goodIn_r _ [20, 6, 7, 4, 8] (by decide +kernel) (by decide +kernel)
set_option maxRecDepth 20000 in
theorem gX10_bestPace_X10_isPace : GoodIn wsX10_bestPace (va_wsS RX10 462 yX10_isPace wsX10_isPace) := goodIn_app (goodIn_of _ (by decide +kernel)) ggX10_bestPace_X10_isPace
set_option maxRecDepth 20000 in
theorem ggX10_bestPace_X10_stepsWith : GoodIn wsX10_bestPace wsX10_stepsWith := goodIn_ca (goodIn_r _ [24, 25, 26, 27, 28, 4, 29, 30, 31, 32, 33, 34, 35, 36, 37, 38, 39, 40, 41, 42, 43, 44, 45, 46, 47, 48, 49, 50, 51, 52, 53, 54, 55, 56, 57, 58, 59, 60, 61, 62, 63, 64, 65, 66, 67, 68, 69, 70, 71, 72, 73, 74, 75, 76, 77, 78, 79, 80, 81, 82, 83, 84, 85, 86, 87, 88, 89, 90, 91, 92, 93, 94, 95, 6, 7, 8, 96, 97, 98, 99, 100, 101, 102, 103, 104, 105, 106, 107, 108, 109, 110, 111, 112, 113, 114, 115, 116, 117, 118, 119, 120, 121, 122, 123, 124, 125, 126, 127, 128, 129, 130, 131, 132, 133, 134, 135, 136, 137, 138, 139, 140, 141, 142, 143, 144, 145, 146, 147, 148, 149, 150, 151, 152, 153, 154, 155, 156, 157, 158, 159, 160, 161, 162, 163, 164, 165, 166, 167, 168, 169, 170, 171, 172, 173, 174, 175, 176, 177, 178, 179, 180, 181, 182, 183, 184, 185, 186, 187, 188, 189, 190, 191, 192] (by decide +kernel) (by decide +kernel)) (goodIn_sub (fun _ h => List.mem_cons_of_mem _ (List.mem_append_right _ h)) (by decide +kernel))
set_option maxRecDepth 20000 in
theorem gX10_bestPace_X10_stepsWith : GoodIn wsX10_bestPace (wsV RX10 465 RX10 yX10_stepsWith wsX10_stepsWith) := goodIn_app (goodIn_of _ (by decide +kernel)) ggX10_bestPace_X10_stepsWith
theorem dX10_bestPace_0 : decode cX10_bestPace 0 = .ok (.aload_n 0, 1) := by decide +kernel
theorem dX10_bestPace_1 : decode cX10_bestPace 1 = .ok (.aload_n 0, 1) := by decide +kernel
theorem dX10_bestPace_2 : decode cX10_bestPace 2 = .ok (.getfield 44, 3) := by decide +kernel
theorem dX10_bestPace_5 : decode cX10_bestPace 5 = .ok (.iload_n 1, 1) := by decide +kernel
theorem dX10_bestPace_6 : decode cX10_bestPace 6 = .ok (.invokestatic 453, 3) := by decide +kernel
theorem dX10_bestPace_9 : decode cX10_bestPace 9 = .ok (.invokevirtual 428, 3) := by decide +kernel
theorem dX10_bestPace_12 : decode cX10_bestPace 12 = .ok (.ifCond .ne 5, 3) := by decide +kernel
theorem dX10_bestPace_15 : decode cX10_bestPace 15 = .ok (.iconst 0, 1) := by decide +kernel
theorem dX10_bestPace_16 : decode cX10_bestPace 16 = .ok (.ireturn, 1) := by decide +kernel
theorem dX10_bestPace_17 : decode cX10_bestPace 17 = .ok (.iconst 1, 1) := by decide +kernel
theorem dX10_bestPace_18 : decode cX10_bestPace 18 = .ok (.istore_n 2, 1) := by decide +kernel
theorem dX10_bestPace_19 : decode cX10_bestPace 19 = .ok (.iconst (-1), 1) := by decide +kernel
theorem dX10_bestPace_20 : decode cX10_bestPace 20 = .ok (.istore_n 3, 1) := by decide +kernel
theorem dX10_bestPace_21 : decode cX10_bestPace 21 = .ok (.iconst 1, 1) := by decide +kernel
theorem dX10_bestPace_22 : decode cX10_bestPace 22 = .ok (.istore 4, 2) := by decide +kernel
theorem dX10_bestPace_24 : decode cX10_bestPace 24 = .ok (.iload 4, 2) := by decide +kernel
theorem dX10_bestPace_26 : decode cX10_bestPace 26 = .ok (.invokestatic 462, 3) := by decide +kernel
theorem dX10_bestPace_29 : decode cX10_bestPace 29 = .ok (.ifCond .eq 34, 3) := by decide +kernel
theorem dX10_bestPace_32 : decode cX10_bestPace 32 = .ok (.aload_n 0, 1) := by decide +kernel
theorem dX10_bestPace_33 : decode cX10_bestPace 33 = .ok (.iconst 3, 1) := by decide +kernel
theorem dX10_bestPace_34 : decode cX10_bestPace 34 = .ok (.iload 4, 2) := by decide +kernel
theorem dX10_bestPace_36 : decode cX10_bestPace 36 = .ok (.iload_n 1, 1) := by decide +kernel
theorem dX10_bestPace_37 : decode cX10_bestPace 37 = .ok (.invokevirtual 465, 3) := by decide +kernel
theorem dX10_bestPace_40 : decode cX10_bestPace 40 = .ok (.istore 5, 2) := by decide +kernel
theorem dX10_bestPace_42 : decode cX10_bestPace 42 = .ok (.iload 5, 2) := by decide +kernel
theorem dX10_bestPace_44 : decode cX10_bestPace 44 = .ok (.iload_n 3, 1) := by decide +kernel
theorem dX10_bestPace_45 : decode cX10_bestPace 45 = .ok (.if_icmp .gt 6, 3) := by decide +kernel
theorem dX10_bestPace_48 : decode cX10_bestPace 48 = .ok (.goto 9, 3) := by decide +kernel
theorem dX10_bestPace_51 : decode cX10_bestPace 51 = .ok (.iload 5, 2) := by decide +kernel
theorem dX10_bestPace_53 : decode cX10_bestPace 53 = .ok (.istore_n 3, 1) := by decide +kernel
theorem dX10_bestPace_54 : decode cX10_bestPace 54 = .ok (.iload 4, 2) := by decide +kernel
theorem dX10_bestPace_56 : decode cX10_bestPace 56 = .ok (.istore_n 2, 1) := by decide +kernel
theorem dX10_bestPace_57 : decode cX10_bestPace 57 = .ok (.iinc 4 1, 3) := by decide +kernel
theorem dX10_bestPace_60 : decode cX10_bestPace 60 = .ok (.goto (-36), 3) := by decide +kernel
theorem dX10_bestPace_63 : decode cX10_bestPace 63 = .ok (.iload_n 2, 1) := by decide +kernel
theorem dX10_bestPace_64 : decode cX10_bestPace 64 = .ok (.ireturn, 1) := by decide +kernel
set_option maxRecDepth 20000 in
theorem ggX10_bestCurtain_X10_areMinutes : GoodIn wsX10_bestCurtain wsX10_areMinutes := goodIn_r _ [6, 7, 8, 5, 9] (by decide +kernel) (by decide +kernel)
set_option maxRecDepth 20000 in
theorem gX10_bestCurtain_X10_areMinutes : GoodIn wsX10_bestCurtain (va_wsS RX10 453 yX10_areMinutes wsX10_areMinutes) := goodIn_app (goodIn_of _ (by decide +kernel)) ggX10_bestCurtain_X10_areMinutes
set_option maxRecDepth 20000 in
theorem ggX10_bestCurtain_X10_mayTwo : GoodIn wsX10_bestCurtain wsX10_mayTwo := goodIn_r _ [13, 14, 15, 16, 5, 17, 18, 168, 169, 170, 171, 172, 173, 174, 175, 176, 177, 178, 179, 180, 181, 182, 183, 184, 185, 186, 187, 188, 189] (by decide +kernel) (by decide +kernel)
set_option maxRecDepth 20000 in
theorem gX10_bestCurtain_X10_mayTwo : GoodIn wsX10_bestCurtain (wsV RX10 428 RX10 yX10_mayTwo wsX10_mayTwo) := goodIn_app (goodIn_of _ (by decide +kernel)) ggX10_bestCurtain_X10_mayTwo
set_option maxRecDepth 20000 in
theorem ggX10_bestCurtain_X10_isClosed : GoodIn wsX10_bestCurtain wsX10_isClosed := goodIn_ca (goodIn_r _ [22, 2, 168, 169, 170, 171, 172, 173, 174, 175, 176, 177, 178, 179, 180, 181, 182, 183, 184, 185, 186, 187, 188, 189] (by decide +kernel) (by decide +kernel)) (goodIn_sub (fun _ h => List.mem_cons_of_mem _ (List.mem_append_right _ h)) (by decide +kernel))
set_option maxRecDepth 20000 in
theorem gX10_bestCurtain_X10_isClosed : GoodIn wsX10_bestCurtain (wsV RX10 345 RX10 yX10_isClosed wsX10_isClosed) := goodIn_app (goodIn_of _ (by decide +kernel)) ggX10_bestCurtain_X10_isClosed
set_option maxRecDepth 20000 in
theorem ggX10_bestCurtain_X10_stepsWith : GoodIn wsX10_bestCurtain wsX10_stepsWith := goodIn_ca (goodIn_r _ [26, 2, 27, 28, 29, 5, 30, 31, 32, 33, 34, 35, 36, 37, 38, 39, 40, 41, 42, 43, 44, 45, 46, 47, 48, 49, 50, 51, 52, 53, 54, 55, 56, 57, 58, 59, 60, 61, 62, 63, 64, 65, 66, 67, 68, 69, 70, 71, 72, 73, 74, 75, 76, 77, 78, 79, 80, 81, 82, 83, 84, 85, 86, 87, 88, 89, 90, 91, 92, 93, 94, 95, 96, 7, 8, 9, 97, 98, 99, 100, 101, 102, 103, 104, 105, 106, 107, 108, 19, 20, 21, 22, 109, 110, 111, 112, 113, 114, 115, 116, 117, 118, 119, 120, 121, 122, 123, 124, 125, 126, 127, 128, 129, 130, 131, 132, 133, 134, 135, 136, 137, 138, 139, 140, 141, 142, 143, 144, 145, 146, 147, 148, 149, 150, 151, 152, 153, 154, 155, 156, 157, 158, 159, 160, 161, 162, 163, 164, 165, 166, 167, 168, 169, 170, 171, 172, 173, 174, 175, 176, 177, 178, 179, 180, 181, 182, 183, 184, 185, 186, 187, 188, 189] (by decide +kernel) (by decide +kernel)) (goodIn_sub (fun _ h => List.mem_cons_of_mem _ (List.mem_append_right _ h)) (by decide +kernel))
set_option maxRecDepth 20000 in
theorem gX10_bestCurtain_X10_stepsWith : GoodIn wsX10_bestCurtain (wsV RX10 465 RX10 yX10_stepsWith wsX10_stepsWith) := goodIn_app (goodIn_of _ (by decide +kernel)) ggX10_bestCurtain_X10_stepsWith
theorem dX10_bestCurtain_0 : decode cX10_bestCurtain 0 = .ok (.aload_n 0, 1) := by decide +kernel
theorem dX10_bestCurtain_1 : decode cX10_bestCurtain 1 = .ok (.aload_n 0, 1) := by decide +kernel
theorem dX10_bestCurtain_2 : decode cX10_bestCurtain 2 = .ok (.getfield 44, 3) := by decide +kernel
theorem dX10_bestCurtain_5 : decode cX10_bestCurtain 5 = .ok (.iload_n 1, 1) := by decide +kernel
theorem dX10_bestCurtain_6 : decode cX10_bestCurtain 6 = .ok (.invokestatic 453, 3) := by decide +kernel
theorem dX10_bestCurtain_9 : decode cX10_bestCurtain 9 = .ok (.invokevirtual 428, 3) := by decide +kernel
theorem dX10_bestCurtain_12 : decode cX10_bestCurtain 12 = .ok (.ifCond .ne 5, 3) := by decide +kernel
theorem dX10_bestCurtain_15 : decode cX10_bestCurtain 15 = .ok (.iconst 0, 1) := by decide +kernel
theorem dX10_bestCurtain_16 : decode cX10_bestCurtain 16 = .ok (.ireturn, 1) := by decide +kernel
theorem dX10_bestCurtain_17 : decode cX10_bestCurtain 17 = .ok (.iconst (-1), 1) := by decide +kernel
theorem dX10_bestCurtain_18 : decode cX10_bestCurtain 18 = .ok (.istore_n 2, 1) := by decide +kernel
theorem dX10_bestCurtain_19 : decode cX10_bestCurtain 19 = .ok (.iconst (-1), 1) := by decide +kernel
theorem dX10_bestCurtain_20 : decode cX10_bestCurtain 20 = .ok (.istore_n 3, 1) := by decide +kernel
theorem dX10_bestCurtain_21 : decode cX10_bestCurtain 21 = .ok (.iconst 0, 1) := by decide +kernel
theorem dX10_bestCurtain_22 : decode cX10_bestCurtain 22 = .ok (.istore 4, 2) := by decide +kernel
theorem dX10_bestCurtain_24 : decode cX10_bestCurtain 24 = .ok (.iload 4, 2) := by decide +kernel
theorem dX10_bestCurtain_26 : decode cX10_bestCurtain 26 = .ok (.aload_n 0, 1) := by decide +kernel
theorem dX10_bestCurtain_27 : decode cX10_bestCurtain 27 = .ok (.getfield 9, 3) := by decide +kernel
theorem dX10_bestCurtain_30 : decode cX10_bestCurtain 30 = .ok (.iconst 1, 1) := by decide +kernel
theorem dX10_bestCurtain_31 : decode cX10_bestCurtain 31 = .ok (.iaload, 1) := by decide +kernel
theorem dX10_bestCurtain_32 : decode cX10_bestCurtain 32 = .ok (.if_icmp .ge 50, 3) := by decide +kernel
theorem dX10_bestCurtain_35 : decode cX10_bestCurtain 35 = .ok (.aload_n 0, 1) := by decide +kernel
theorem dX10_bestCurtain_36 : decode cX10_bestCurtain 36 = .ok (.iload 4, 2) := by decide +kernel
theorem dX10_bestCurtain_38 : decode cX10_bestCurtain 38 = .ok (.invokevirtual 345, 3) := by decide +kernel
theorem dX10_bestCurtain_41 : decode cX10_bestCurtain 41 = .ok (.ifCond .eq 17, 3) := by decide +kernel
theorem dX10_bestCurtain_44 : decode cX10_bestCurtain 44 = .ok (.aload_n 0, 1) := by decide +kernel
theorem dX10_bestCurtain_45 : decode cX10_bestCurtain 45 = .ok (.bipush 26, 2) := by decide +kernel
theorem dX10_bestCurtain_47 : decode cX10_bestCurtain 47 = .ok (.iload 4, 2) := by decide +kernel
theorem dX10_bestCurtain_49 : decode cX10_bestCurtain 49 = .ok (.iadd, 1) := by decide +kernel
theorem dX10_bestCurtain_50 : decode cX10_bestCurtain 50 = .ok (.iconst 0, 1) := by decide +kernel
theorem dX10_bestCurtain_51 : decode cX10_bestCurtain 51 = .ok (.iload_n 1, 1) := by decide +kernel
theorem dX10_bestCurtain_52 : decode cX10_bestCurtain 52 = .ok (.invokevirtual 465, 3) := by decide +kernel
theorem dX10_bestCurtain_55 : decode cX10_bestCurtain 55 = .ok (.goto 4, 3) := by decide +kernel
theorem dX10_bestCurtain_58 : decode cX10_bestCurtain 58 = .ok (.iconst (-1), 1) := by decide +kernel
theorem dX10_bestCurtain_59 : decode cX10_bestCurtain 59 = .ok (.istore 5, 2) := by decide +kernel
theorem dX10_bestCurtain_61 : decode cX10_bestCurtain 61 = .ok (.iload 5, 2) := by decide +kernel
theorem dX10_bestCurtain_63 : decode cX10_bestCurtain 63 = .ok (.iload_n 3, 1) := by decide +kernel
theorem dX10_bestCurtain_64 : decode cX10_bestCurtain 64 = .ok (.if_icmp .gt 6, 3) := by decide +kernel
theorem dX10_bestCurtain_67 : decode cX10_bestCurtain 67 = .ok (.goto 9, 3) := by decide +kernel
theorem dX10_bestCurtain_70 : decode cX10_bestCurtain 70 = .ok (.iload 5, 2) := by decide +kernel
theorem dX10_bestCurtain_72 : decode cX10_bestCurtain 72 = .ok (.istore_n 3, 1) := by decide +kernel
theorem dX10_bestCurtain_73 : decode cX10_bestCurtain 73 = .ok (.iload 4, 2) := by decide +kernel
theorem dX10_bestCurtain_75 : decode cX10_bestCurtain 75 = .ok (.istore_n 2, 1) := by decide +kernel
theorem dX10_bestCurtain_76 : decode cX10_bestCurtain 76 = .ok (.iinc 4 1, 3) := by decide +kernel
theorem dX10_bestCurtain_79 : decode cX10_bestCurtain 79 = .ok (.goto (-55), 3) := by decide +kernel
theorem dX10_bestCurtain_82 : decode cX10_bestCurtain 82 = .ok (.iload_n 2, 1) := by decide +kernel
theorem dX10_bestCurtain_83 : decode cX10_bestCurtain 83 = .ok (.ireturn, 1) := by decide +kernel
theorem dX10_writesByte_0 : decode cX10_writesByte 0 = .ok (.aload_n 0, 1) := by decide +kernel
theorem dX10_writesByte_1 : decode cX10_writesByte 1 = .ok (.getfield 34, 3) := by decide +kernel
theorem dX10_writesByte_4 : decode cX10_writesByte 4 = .ok (.aload_n 0, 1) := by decide +kernel
theorem dX10_writesByte_5 : decode cX10_writesByte 5 = .ok (.getfield 469, 3) := by decide +kernel
theorem dX10_writesByte_8 : decode cX10_writesByte 8 = .ok (.iload_n 1, 1) := by decide +kernel
theorem dX10_writesByte_9 : decode cX10_writesByte 9 = .ok (.i2b, 1) := by decide +kernel
theorem dX10_writesByte_10 : decode cX10_writesByte 10 = .ok (.bastore, 1) := by decide +kernel
theorem dX10_writesByte_11 : decode cX10_writesByte 11 = .ok (.aload_n 0, 1) := by decide +kernel
theorem dX10_writesByte_12 : decode cX10_writesByte 12 = .ok (.dup, 1) := by decide +kernel
theorem dX10_writesByte_13 : decode cX10_writesByte 13 = .ok (.getfield 469, 3) := by decide +kernel
theorem dX10_writesByte_16 : decode cX10_writesByte 16 = .ok (.iconst 1, 1) := by decide +kernel
theorem dX10_writesByte_17 : decode cX10_writesByte 17 = .ok (.iadd, 1) := by decide +kernel
theorem dX10_writesByte_18 : decode cX10_writesByte 18 = .ok (.putfield 469, 3) := by decide +kernel
theorem dX10_writesByte_21 : decode cX10_writesByte 21 = .ok (.return_, 1) := by decide +kernel
set_option maxRecDepth 20000 in
theorem ggX10_writesNumber_X10_writesByte : GoodIn wsX10_writesNumber wsX10_writesByte := goodIn_ca (goodIn_r _ [5, 6, 7, 8, 9, 10, 11, 12, 13, 14, 15, 16, 17, 18, 19, 20, 21, 22, 23, 24, 25, 26, 27, 28, 29] (by decide +kernel) (by decide +kernel)) (goodIn_sub (fun _ h => List.mem_cons_of_mem _ (List.mem_append_right _ h)) (by decide +kernel))
set_option maxRecDepth 20000 in
theorem gX10_writesNumber_X10_writesByte : GoodIn wsX10_writesNumber (wsV RX10 472 RX10 yX10_writesByte wsX10_writesByte) := goodIn_app (goodIn_of _ (by decide +kernel)) ggX10_writesNumber_X10_writesByte
theorem dX10_writesNumber_0 : decode cX10_writesNumber 0 = .ok (.iconst 1, 1) := by decide +kernel
theorem dX10_writesNumber_1 : decode cX10_writesNumber 1 = .ok (.istore_n 2, 1) := by decide +kernel
theorem dX10_writesNumber_2 : decode cX10_writesNumber 2 = .ok (.iload_n 1, 1) := by decide +kernel
theorem dX10_writesNumber_3 : decode cX10_writesNumber 3 = .ok (.iload_n 2, 1) := by decide +kernel
theorem dX10_writesNumber_4 : decode cX10_writesNumber 4 = .ok (.idiv, 1) := by decide +kernel
theorem dX10_writesNumber_5 : decode cX10_writesNumber 5 = .ok (.bipush 9, 2) := by decide +kernel
theorem dX10_writesNumber_7 : decode cX10_writesNumber 7 = .ok (.if_icmp .le 11, 3) := by decide +kernel
theorem dX10_writesNumber_10 : decode cX10_writesNumber 10 = .ok (.iload_n 2, 1) := by decide +kernel
theorem dX10_writesNumber_11 : decode cX10_writesNumber 11 = .ok (.bipush 10, 2) := by decide +kernel
theorem dX10_writesNumber_13 : decode cX10_writesNumber 13 = .ok (.imul, 1) := by decide +kernel
theorem dX10_writesNumber_14 : decode cX10_writesNumber 14 = .ok (.istore_n 2, 1) := by decide +kernel
theorem dX10_writesNumber_15 : decode cX10_writesNumber 15 = .ok (.goto (-13), 3) := by decide +kernel
theorem dX10_writesNumber_18 : decode cX10_writesNumber 18 = .ok (.iload_n 2, 1) := by decide +kernel
theorem dX10_writesNumber_19 : decode cX10_writesNumber 19 = .ok (.ifCond .le 24, 3) := by decide +kernel
theorem dX10_writesNumber_22 : decode cX10_writesNumber 22 = .ok (.aload_n 0, 1) := by decide +kernel
theorem dX10_writesNumber_23 : decode cX10_writesNumber 23 = .ok (.bipush 48, 2) := by decide +kernel
theorem dX10_writesNumber_25 : decode cX10_writesNumber 25 = .ok (.iload_n 1, 1) := by decide +kernel
theorem dX10_writesNumber_26 : decode cX10_writesNumber 26 = .ok (.iload_n 2, 1) := by decide +kernel
theorem dX10_writesNumber_27 : decode cX10_writesNumber 27 = .ok (.idiv, 1) := by decide +kernel
theorem dX10_writesNumber_28 : decode cX10_writesNumber 28 = .ok (.bipush 10, 2) := by decide +kernel
theorem dX10_writesNumber_30 : decode cX10_writesNumber 30 = .ok (.irem, 1) := by decide +kernel
theorem dX10_writesNumber_31 : decode cX10_writesNumber 31 = .ok (.iadd, 1) := by decide +kernel
theorem dX10_writesNumber_32 : decode cX10_writesNumber 32 = .ok (.invokevirtual 472, 3) := by decide +kernel
theorem dX10_writesNumber_35 : decode cX10_writesNumber 35 = .ok (.iload_n 2, 1) := by decide +kernel
theorem dX10_writesNumber_36 : decode cX10_writesNumber 36 = .ok (.bipush 10, 2) := by decide +kernel
theorem dX10_writesNumber_38 : decode cX10_writesNumber 38 = .ok (.idiv, 1) := by decide +kernel
theorem dX10_writesNumber_39 : decode cX10_writesNumber 39 = .ok (.istore_n 2, 1) := by decide +kernel
theorem dX10_writesNumber_40 : decode cX10_writesNumber 40 = .ok (.goto (-22), 3) := by decide +kernel
theorem dX10_writesNumber_43 : decode cX10_writesNumber 43 = .ok (.return_, 1) := by decide +kernel
set_option maxRecDepth 20000 in
theorem ggX10_signOf_X10_isDry : GoodIn wsX10_signOf wsX10_isDry := goodIn_ca (goodIn_r _ [6, 1, 34, 35, 36, 37, 38, 39, 40, 41, 42, 43, 44, 45, 46, 47, 48, 49, 50, 51, 52, 53, 54, 55] (by decide +kernel) (by decide +kernel)) (goodIn_sub (fun _ h => List.mem_cons_of_mem _ (List.mem_append_right _ h)) (by decide +kernel))
set_option maxRecDepth 20000 in
theorem gX10_signOf_X10_isDry : GoodIn wsX10_signOf (wsV RX10 145 RX10 yX10_isDry wsX10_isDry) := goodIn_app (goodIn_of _ (by decide +kernel)) ggX10_signOf_X10_isDry
set_option maxRecDepth 20000 in
theorem ggX10_signOf_X10_shinesOn : GoodIn wsX10_signOf wsX10_shinesOn := goodIn_ca (goodIn_r _ [10, 1, 11, 12, 13, 5, 14, 15, 16, 17, 18, 19, 20, 21, 22, 23, 24, 25, 26, 27, 28, 29, 30, 31, 32, 33, 34, 35, 36, 37, 38, 39, 40, 41, 42, 43, 44, 45, 46, 47, 48, 49, 50, 51, 52, 53, 54, 55] (by decide +kernel) (by decide +kernel)) (goodIn_sub (fun _ h => List.mem_cons_of_mem _ (List.mem_append_right _ h)) (by decide +kernel))
set_option maxRecDepth 20000 in
theorem gX10_signOf_X10_shinesOn : GoodIn wsX10_signOf (wsV RX10 392 RX10 yX10_shinesOn wsX10_shinesOn) := goodIn_app (goodIn_of _ (by decide +kernel)) ggX10_signOf_X10_shinesOn
theorem dX10_signOf_0 : decode cX10_signOf 0 = .ok (.aload_n 0, 1) := by decide +kernel
theorem dX10_signOf_1 : decode cX10_signOf 1 = .ok (.getfield 9, 3) := by decide +kernel
theorem dX10_signOf_4 : decode cX10_signOf 4 = .ok (.bipush 8, 2) := by decide +kernel
theorem dX10_signOf_6 : decode cX10_signOf 6 = .ok (.iaload, 1) := by decide +kernel
theorem dX10_signOf_7 : decode cX10_signOf 7 = .ok (.iload_n 1, 1) := by decide +kernel
theorem dX10_signOf_8 : decode cX10_signOf 8 = .ok (.if_icmp .ne 6, 3) := by decide +kernel
theorem dX10_signOf_11 : decode cX10_signOf 11 = .ok (.bipush 87, 2) := by decide +kernel
theorem dX10_signOf_13 : decode cX10_signOf 13 = .ok (.ireturn, 1) := by decide +kernel
theorem dX10_signOf_14 : decode cX10_signOf 14 = .ok (.aload_n 0, 1) := by decide +kernel
theorem dX10_signOf_15 : decode cX10_signOf 15 = .ok (.getfield 9, 3) := by decide +kernel
theorem dX10_signOf_18 : decode cX10_signOf 18 = .ok (.bipush 16, 2) := by decide +kernel
theorem dX10_signOf_20 : decode cX10_signOf 20 = .ok (.iaload, 1) := by decide +kernel
theorem dX10_signOf_21 : decode cX10_signOf 21 = .ok (.iload_n 1, 1) := by decide +kernel
theorem dX10_signOf_22 : decode cX10_signOf 22 = .ok (.if_icmp .ne 6, 3) := by decide +kernel
theorem dX10_signOf_25 : decode cX10_signOf 25 = .ok (.bipush 67, 2) := by decide +kernel
theorem dX10_signOf_27 : decode cX10_signOf 27 = .ok (.ireturn, 1) := by decide +kernel
theorem dX10_signOf_28 : decode cX10_signOf 28 = .ok (.aload_n 0, 1) := by decide +kernel
theorem dX10_signOf_29 : decode cX10_signOf 29 = .ok (.getfield 9, 3) := by decide +kernel
theorem dX10_signOf_32 : decode cX10_signOf 32 = .ok (.bipush 84, 2) := by decide +kernel
theorem dX10_signOf_34 : decode cX10_signOf 34 = .ok (.iload_n 1, 1) := by decide +kernel
theorem dX10_signOf_35 : decode cX10_signOf 35 = .ok (.iadd, 1) := by decide +kernel
theorem dX10_signOf_36 : decode cX10_signOf 36 = .ok (.iaload, 1) := by decide +kernel
theorem dX10_signOf_37 : decode cX10_signOf 37 = .ok (.iconst 1, 1) := by decide +kernel
theorem dX10_signOf_38 : decode cX10_signOf 38 = .ok (.if_icmp .ne 6, 3) := by decide +kernel
theorem dX10_signOf_41 : decode cX10_signOf 41 = .ok (.bipush 111, 2) := by decide +kernel
theorem dX10_signOf_43 : decode cX10_signOf 43 = .ok (.ireturn, 1) := by decide +kernel
theorem dX10_signOf_44 : decode cX10_signOf 44 = .ok (.aload_n 0, 1) := by decide +kernel
theorem dX10_signOf_45 : decode cX10_signOf 45 = .ok (.iload_n 1, 1) := by decide +kernel
theorem dX10_signOf_46 : decode cX10_signOf 46 = .ok (.invokevirtual 145, 3) := by decide +kernel
theorem dX10_signOf_49 : decode cX10_signOf 49 = .ok (.ifCond .ne 6, 3) := by decide +kernel
theorem dX10_signOf_52 : decode cX10_signOf 52 = .ok (.bipush 126, 2) := by decide +kernel
theorem dX10_signOf_54 : decode cX10_signOf 54 = .ok (.ireturn, 1) := by decide +kernel
theorem dX10_signOf_55 : decode cX10_signOf 55 = .ok (.aload_n 0, 1) := by decide +kernel
theorem dX10_signOf_56 : decode cX10_signOf 56 = .ok (.getfield 9, 3) := by decide +kernel
theorem dX10_signOf_59 : decode cX10_signOf 59 = .ok (.sipush 164, 3) := by decide +kernel
theorem dX10_signOf_62 : decode cX10_signOf 62 = .ok (.iload_n 1, 1) := by decide +kernel
theorem dX10_signOf_63 : decode cX10_signOf 63 = .ok (.iadd, 1) := by decide +kernel
theorem dX10_signOf_64 : decode cX10_signOf 64 = .ok (.iaload, 1) := by decide +kernel
theorem dX10_signOf_65 : decode cX10_signOf 65 = .ok (.iconst 1, 1) := by decide +kernel
theorem dX10_signOf_66 : decode cX10_signOf 66 = .ok (.if_icmp .ne 6, 3) := by decide +kernel
theorem dX10_signOf_69 : decode cX10_signOf 69 = .ok (.bipush 114, 2) := by decide +kernel
theorem dX10_signOf_71 : decode cX10_signOf 71 = .ok (.ireturn, 1) := by decide +kernel
theorem dX10_signOf_72 : decode cX10_signOf 72 = .ok (.aload_n 0, 1) := by decide +kernel
theorem dX10_signOf_73 : decode cX10_signOf 73 = .ok (.iload_n 1, 1) := by decide +kernel
theorem dX10_signOf_74 : decode cX10_signOf 74 = .ok (.invokevirtual 392, 3) := by decide +kernel
theorem dX10_signOf_77 : decode cX10_signOf 77 = .ok (.ifCond .eq 8, 3) := by decide +kernel
theorem dX10_signOf_80 : decode cX10_signOf 80 = .ok (.bipush 42, 2) := by decide +kernel
theorem dX10_signOf_82 : decode cX10_signOf 82 = .ok (.goto 5, 3) := by decide +kernel
theorem dX10_signOf_85 : decode cX10_signOf 85 = .ok (.bipush 46, 2) := by decide +kernel
theorem dX10_signOf_87 : decode cX10_signOf 87 = .ok (.ireturn, 1) := by decide +kernel
set_option maxRecDepth 20000 in
theorem ggX10_writeRow_X10_in : GoodIn wsX10_writeRow wsX10_in := goodIn_r _ [7] (by decide +kernel) (by decide +kernel)
set_option maxRecDepth 20000 in
theorem gX10_writeRow_X10_in : GoodIn wsX10_writeRow (va_wsS RX10 65 yX10_in wsX10_in) := goodIn_app (goodIn_of _ (by decide +kernel)) ggX10_writeRow_X10_in
set_option maxRecDepth 20000 in
theorem ggX10_writeRow_X10_mayTwo : GoodIn wsX10_writeRow wsX10_mayTwo := goodIn_r _ [11, 12, 13, 14, 6, 15, 16, 54, 55, 56, 57, 58, 59, 60, 61, 62, 63, 64, 65, 66, 67, 68, 69, 70, 71, 72, 73, 74, 75] (by decide +kernel) (by decide +kernel)
set_option maxRecDepth 20000 in
theorem gX10_writeRow_X10_mayTwo : GoodIn wsX10_writeRow (wsV RX10 428 RX10 yX10_mayTwo wsX10_mayTwo) := goodIn_app (goodIn_of _ (by decide +kernel)) ggX10_writeRow_X10_mayTwo
set_option maxRecDepth 20000 in
theorem ggX10_writeRow_X10_signOf : GoodIn wsX10_writeRow wsX10_signOf := goodIn_ca (goodIn_r _ [20, 2, 21, 22, 23, 6, 24, 25, 26, 27, 28, 29, 30, 31, 32, 33, 34, 35, 36, 37, 38, 39, 40, 4, 5, 7, 41, 42, 43, 44, 45, 46, 47, 48, 54, 55, 56, 57, 58, 59, 60, 61, 62, 63, 64, 65, 66, 67, 68, 69, 70, 71, 72, 73, 74, 75] (by decide +kernel) (by decide +kernel)) (goodIn_sub (fun _ h => List.mem_cons_of_mem _ (List.mem_append_right _ h)) (by decide +kernel))
set_option maxRecDepth 20000 in
theorem gX10_writeRow_X10_signOf : GoodIn wsX10_writeRow (wsV RX10 475 RX10 yX10_signOf wsX10_signOf) := goodIn_app (goodIn_of _ (by decide +kernel)) ggX10_writeRow_X10_signOf
set_option maxRecDepth 20000 in
theorem ggX10_writeRow_X10_writesByte : GoodIn wsX10_writeRow wsX10_writesByte := goodIn_ca (goodIn_r _ [52, 53, 3, 54, 55, 56, 57, 58, 59, 60, 61, 62, 63, 64, 65, 66, 67, 68, 69, 70, 71, 72, 73, 74, 75] (by decide +kernel) (by decide +kernel)) (goodIn_sub (fun _ h => List.mem_cons_of_mem _ (List.mem_append_right _ h)) (by decide +kernel))
set_option maxRecDepth 20000 in
theorem gX10_writeRow_X10_writesByte : GoodIn wsX10_writeRow (wsV RX10 472 RX10 yX10_writesByte wsX10_writesByte) := goodIn_app (goodIn_of _ (by decide +kernel)) ggX10_writeRow_X10_writesByte
theorem dX10_writeRow_0 : decode cX10_writeRow 0 = .ok (.aload_n 0, 1) := by decide +kernel
theorem dX10_writeRow_1 : decode cX10_writeRow 1 = .ok (.aload_n 0, 1) := by decide +kernel
theorem dX10_writeRow_2 : decode cX10_writeRow 2 = .ok (.getfield 44, 3) := by decide +kernel
theorem dX10_writeRow_5 : decode cX10_writeRow 5 = .ok (.aload_n 0, 1) := by decide +kernel
theorem dX10_writeRow_6 : decode cX10_writeRow 6 = .ok (.getfield 44, 3) := by decide +kernel
theorem dX10_writeRow_9 : decode cX10_writeRow 9 = .ok (.ifCond .eq 23, 3) := by decide +kernel
theorem dX10_writeRow_12 : decode cX10_writeRow 12 = .ok (.iload_n 1, 1) := by decide +kernel
theorem dX10_writeRow_13 : decode cX10_writeRow 13 = .ok (.iconst 0, 1) := by decide +kernel
theorem dX10_writeRow_14 : decode cX10_writeRow 14 = .ok (.aload_n 0, 1) := by decide +kernel
theorem dX10_writeRow_15 : decode cX10_writeRow 15 = .ok (.getfield 9, 3) := by decide +kernel
theorem dX10_writeRow_18 : decode cX10_writeRow 18 = .ok (.iconst 0, 1) := by decide +kernel
theorem dX10_writeRow_19 : decode cX10_writeRow 19 = .ok (.iaload, 1) := by decide +kernel
theorem dX10_writeRow_20 : decode cX10_writeRow 20 = .ok (.iconst 1, 1) := by decide +kernel
theorem dX10_writeRow_21 : decode cX10_writeRow 21 = .ok (.isub, 1) := by decide +kernel
theorem dX10_writeRow_22 : decode cX10_writeRow 22 = .ok (.invokestatic 65, 3) := by decide +kernel
theorem dX10_writeRow_25 : decode cX10_writeRow 25 = .ok (.ifCond .eq 7, 3) := by decide +kernel
theorem dX10_writeRow_28 : decode cX10_writeRow 28 = .ok (.iconst 1, 1) := by decide +kernel
theorem dX10_writeRow_29 : decode cX10_writeRow 29 = .ok (.goto 4, 3) := by decide +kernel
theorem dX10_writeRow_32 : decode cX10_writeRow 32 = .ok (.iconst 0, 1) := by decide +kernel
theorem dX10_writeRow_33 : decode cX10_writeRow 33 = .ok (.invokevirtual 428, 3) := by decide +kernel
theorem dX10_writeRow_36 : decode cX10_writeRow 36 = .ok (.ifCond .ne 5, 3) := by decide +kernel
theorem dX10_writeRow_39 : decode cX10_writeRow 39 = .ok (.iconst 0, 1) := by decide +kernel
theorem dX10_writeRow_40 : decode cX10_writeRow 40 = .ok (.ireturn, 1) := by decide +kernel
theorem dX10_writeRow_41 : decode cX10_writeRow 41 = .ok (.aload_n 0, 1) := by decide +kernel
theorem dX10_writeRow_42 : decode cX10_writeRow 42 = .ok (.iconst 0, 1) := by decide +kernel
theorem dX10_writeRow_43 : decode cX10_writeRow 43 = .ok (.putfield 469, 3) := by decide +kernel
theorem dX10_writeRow_46 : decode cX10_writeRow 46 = .ok (.iconst 0, 1) := by decide +kernel
theorem dX10_writeRow_47 : decode cX10_writeRow 47 = .ok (.istore_n 2, 1) := by decide +kernel
theorem dX10_writeRow_48 : decode cX10_writeRow 48 = .ok (.iload_n 2, 1) := by decide +kernel
theorem dX10_writeRow_49 : decode cX10_writeRow 49 = .ok (.aload_n 0, 1) := by decide +kernel
theorem dX10_writeRow_50 : decode cX10_writeRow 50 = .ok (.getfield 9, 3) := by decide +kernel
theorem dX10_writeRow_53 : decode cX10_writeRow 53 = .ok (.iconst 1, 1) := by decide +kernel
theorem dX10_writeRow_54 : decode cX10_writeRow 54 = .ok (.iaload, 1) := by decide +kernel
theorem dX10_writeRow_55 : decode cX10_writeRow 55 = .ok (.if_icmp .ge 27, 3) := by decide +kernel
theorem dX10_writeRow_58 : decode cX10_writeRow 58 = .ok (.aload_n 0, 1) := by decide +kernel
theorem dX10_writeRow_59 : decode cX10_writeRow 59 = .ok (.aload_n 0, 1) := by decide +kernel
theorem dX10_writeRow_60 : decode cX10_writeRow 60 = .ok (.iload_n 1, 1) := by decide +kernel
theorem dX10_writeRow_61 : decode cX10_writeRow 61 = .ok (.aload_n 0, 1) := by decide +kernel
theorem dX10_writeRow_62 : decode cX10_writeRow 62 = .ok (.getfield 9, 3) := by decide +kernel
theorem dX10_writeRow_65 : decode cX10_writeRow 65 = .ok (.iconst 1, 1) := by decide +kernel
theorem dX10_writeRow_66 : decode cX10_writeRow 66 = .ok (.iaload, 1) := by decide +kernel
theorem dX10_writeRow_67 : decode cX10_writeRow 67 = .ok (.imul, 1) := by decide +kernel
theorem dX10_writeRow_68 : decode cX10_writeRow 68 = .ok (.iload_n 2, 1) := by decide +kernel
theorem dX10_writeRow_69 : decode cX10_writeRow 69 = .ok (.iadd, 1) := by decide +kernel
theorem dX10_writeRow_70 : decode cX10_writeRow 70 = .ok (.invokevirtual 475, 3) := by decide +kernel
theorem dX10_writeRow_73 : decode cX10_writeRow 73 = .ok (.invokevirtual 472, 3) := by decide +kernel
theorem dX10_writeRow_76 : decode cX10_writeRow 76 = .ok (.iinc 2 1, 3) := by decide +kernel
theorem dX10_writeRow_79 : decode cX10_writeRow 79 = .ok (.goto (-31), 3) := by decide +kernel
theorem dX10_writeRow_82 : decode cX10_writeRow 82 = .ok (.aload_n 0, 1) := by decide +kernel
theorem dX10_writeRow_83 : decode cX10_writeRow 83 = .ok (.getfield 469, 3) := by decide +kernel
theorem dX10_writeRow_86 : decode cX10_writeRow 86 = .ok (.ireturn, 1) := by decide +kernel
set_option maxRecDepth 20000 in
theorem ggX10_writeRecords_X10_mayLook : GoodIn wsX10_writeRecords wsX10_mayLook := goodIn_r _ [7, 8, 9, 10, 11, 6, 12, 13, 23, 24, 25, 26, 27, 28, 29, 30, 31, 32, 33, 34, 35, 36, 37, 38, 39, 40, 41, 42, 43, 44] (by decide +kernel) (by decide +kernel)
set_option maxRecDepth 20000 in
theorem gX10_writeRecords_X10_mayLook : GoodIn wsX10_writeRecords (wsV RX10 419 RX10 yX10_mayLook wsX10_mayLook) := goodIn_app (goodIn_of _ (by decide +kernel)) ggX10_writeRecords_X10_mayLook
set_option maxRecDepth 20000 in
theorem ggX10_writeRecords_X10_writesByte : GoodIn wsX10_writeRecords wsX10_writesByte := goodIn_ca (goodIn_r _ [17, 18, 1, 23, 24, 25, 26, 27, 28, 29, 30, 31, 32, 33, 34, 35, 36, 37, 38, 39, 40, 41, 42, 43, 44] (by decide +kernel) (by decide +kernel)) (goodIn_sub (fun _ h => List.mem_cons_of_mem _ (List.mem_append_right _ h)) (by decide +kernel))
set_option maxRecDepth 20000 in
theorem gX10_writeRecords_X10_writesByte : GoodIn wsX10_writeRecords (wsV RX10 472 RX10 yX10_writesByte wsX10_writesByte) := goodIn_app (goodIn_of _ (by decide +kernel)) ggX10_writeRecords_X10_writesByte
set_option maxRecDepth 20000 in
theorem ggX10_writeRecords_X10_writesNumber : GoodIn wsX10_writeRecords wsX10_writesNumber := goodIn_ca (goodIn_r _ [22, 14, 15, 16, 6, 17, 18, 1, 23, 24, 25, 26, 27, 28, 29, 30, 31, 32, 33, 34, 35, 36, 37, 38, 39, 40, 41, 42, 43, 44] (by decide +kernel) (by decide +kernel)) (goodIn_sub (fun _ h => List.mem_cons_of_mem _ (List.mem_append_right _ h)) (by decide +kernel))
set_option maxRecDepth 20000 in
theorem gX10_writeRecords_X10_writesNumber : GoodIn wsX10_writeRecords (wsV RX10 478 RX10 yX10_writesNumber wsX10_writesNumber) := goodIn_app (goodIn_of _ (by decide +kernel)) ggX10_writeRecords_X10_writesNumber
theorem dX10_writeRecords_0 : decode cX10_writeRecords 0 = .ok (.aload_n 0, 1) := by decide +kernel
theorem dX10_writeRecords_1 : decode cX10_writeRecords 1 = .ok (.invokevirtual 419, 3) := by decide +kernel
theorem dX10_writeRecords_4 : decode cX10_writeRecords 4 = .ok (.ifCond .ne 5, 3) := by decide +kernel
theorem dX10_writeRecords_7 : decode cX10_writeRecords 7 = .ok (.iconst 0, 1) := by decide +kernel
theorem dX10_writeRecords_8 : decode cX10_writeRecords 8 = .ok (.ireturn, 1) := by decide +kernel
theorem dX10_writeRecords_9 : decode cX10_writeRecords 9 = .ok (.aload_n 0, 1) := by decide +kernel
theorem dX10_writeRecords_10 : decode cX10_writeRecords 10 = .ok (.iconst 0, 1) := by decide +kernel
theorem dX10_writeRecords_11 : decode cX10_writeRecords 11 = .ok (.putfield 469, 3) := by decide +kernel
theorem dX10_writeRecords_14 : decode cX10_writeRecords 14 = .ok (.iconst 0, 1) := by decide +kernel
theorem dX10_writeRecords_15 : decode cX10_writeRecords 15 = .ok (.istore_n 1, 1) := by decide +kernel
theorem dX10_writeRecords_16 : decode cX10_writeRecords 16 = .ok (.iload_n 1, 1) := by decide +kernel
theorem dX10_writeRecords_17 : decode cX10_writeRecords 17 = .ok (.aload_n 0, 1) := by decide +kernel
theorem dX10_writeRecords_18 : decode cX10_writeRecords 18 = .ok (.getfield 9, 3) := by decide +kernel
theorem dX10_writeRecords_21 : decode cX10_writeRecords 21 = .ok (.bipush 19, 2) := by decide +kernel
theorem dX10_writeRecords_23 : decode cX10_writeRecords 23 = .ok (.iaload, 1) := by decide +kernel
theorem dX10_writeRecords_24 : decode cX10_writeRecords 24 = .ok (.if_icmp .ge 59, 3) := by decide +kernel
theorem dX10_writeRecords_27 : decode cX10_writeRecords 27 = .ok (.iload_n 1, 1) := by decide +kernel
theorem dX10_writeRecords_28 : decode cX10_writeRecords 28 = .ok (.ifCond .le 9, 3) := by decide +kernel
theorem dX10_writeRecords_31 : decode cX10_writeRecords 31 = .ok (.aload_n 0, 1) := by decide +kernel
theorem dX10_writeRecords_32 : decode cX10_writeRecords 32 = .ok (.bipush 32, 2) := by decide +kernel
theorem dX10_writeRecords_34 : decode cX10_writeRecords 34 = .ok (.invokevirtual 472, 3) := by decide +kernel
theorem dX10_writeRecords_37 : decode cX10_writeRecords 37 = .ok (.aload_n 0, 1) := by decide +kernel
theorem dX10_writeRecords_38 : decode cX10_writeRecords 38 = .ok (.aload_n 0, 1) := by decide +kernel
theorem dX10_writeRecords_39 : decode cX10_writeRecords 39 = .ok (.getfield 9, 3) := by decide +kernel
theorem dX10_writeRecords_42 : decode cX10_writeRecords 42 = .ok (.sipush 404, 3) := by decide +kernel
theorem dX10_writeRecords_45 : decode cX10_writeRecords 45 = .ok (.iconst 2, 1) := by decide +kernel
theorem dX10_writeRecords_46 : decode cX10_writeRecords 46 = .ok (.iload_n 1, 1) := by decide +kernel
theorem dX10_writeRecords_47 : decode cX10_writeRecords 47 = .ok (.imul, 1) := by decide +kernel
theorem dX10_writeRecords_48 : decode cX10_writeRecords 48 = .ok (.iadd, 1) := by decide +kernel
theorem dX10_writeRecords_49 : decode cX10_writeRecords 49 = .ok (.iaload, 1) := by decide +kernel
theorem dX10_writeRecords_50 : decode cX10_writeRecords 50 = .ok (.invokevirtual 478, 3) := by decide +kernel
theorem dX10_writeRecords_53 : decode cX10_writeRecords 53 = .ok (.aload_n 0, 1) := by decide +kernel
theorem dX10_writeRecords_54 : decode cX10_writeRecords 54 = .ok (.bipush 58, 2) := by decide +kernel
theorem dX10_writeRecords_56 : decode cX10_writeRecords 56 = .ok (.invokevirtual 472, 3) := by decide +kernel
theorem dX10_writeRecords_59 : decode cX10_writeRecords 59 = .ok (.aload_n 0, 1) := by decide +kernel
theorem dX10_writeRecords_60 : decode cX10_writeRecords 60 = .ok (.aload_n 0, 1) := by decide +kernel
theorem dX10_writeRecords_61 : decode cX10_writeRecords 61 = .ok (.getfield 9, 3) := by decide +kernel
theorem dX10_writeRecords_64 : decode cX10_writeRecords 64 = .ok (.sipush 404, 3) := by decide +kernel
theorem dX10_writeRecords_67 : decode cX10_writeRecords 67 = .ok (.iconst 2, 1) := by decide +kernel
theorem dX10_writeRecords_68 : decode cX10_writeRecords 68 = .ok (.iload_n 1, 1) := by decide +kernel
theorem dX10_writeRecords_69 : decode cX10_writeRecords 69 = .ok (.imul, 1) := by decide +kernel
theorem dX10_writeRecords_70 : decode cX10_writeRecords 70 = .ok (.iadd, 1) := by decide +kernel
theorem dX10_writeRecords_71 : decode cX10_writeRecords 71 = .ok (.iconst 1, 1) := by decide +kernel
theorem dX10_writeRecords_72 : decode cX10_writeRecords 72 = .ok (.iadd, 1) := by decide +kernel
theorem dX10_writeRecords_73 : decode cX10_writeRecords 73 = .ok (.iaload, 1) := by decide +kernel
theorem dX10_writeRecords_74 : decode cX10_writeRecords 74 = .ok (.invokevirtual 478, 3) := by decide +kernel
theorem dX10_writeRecords_77 : decode cX10_writeRecords 77 = .ok (.iinc 1 1, 3) := by decide +kernel
theorem dX10_writeRecords_80 : decode cX10_writeRecords 80 = .ok (.goto (-64), 3) := by decide +kernel
theorem dX10_writeRecords_83 : decode cX10_writeRecords 83 = .ok (.aload_n 0, 1) := by decide +kernel
theorem dX10_writeRecords_84 : decode cX10_writeRecords 84 = .ok (.getfield 469, 3) := by decide +kernel
theorem dX10_writeRecords_87 : decode cX10_writeRecords 87 = .ok (.ifCond .ne 9, 3) := by decide +kernel
theorem dX10_writeRecords_90 : decode cX10_writeRecords 90 = .ok (.aload_n 0, 1) := by decide +kernel
theorem dX10_writeRecords_91 : decode cX10_writeRecords 91 = .ok (.bipush 45, 2) := by decide +kernel
theorem dX10_writeRecords_93 : decode cX10_writeRecords 93 = .ok (.invokevirtual 472, 3) := by decide +kernel
theorem dX10_writeRecords_96 : decode cX10_writeRecords 96 = .ok (.aload_n 0, 1) := by decide +kernel
theorem dX10_writeRecords_97 : decode cX10_writeRecords 97 = .ok (.getfield 469, 3) := by decide +kernel
theorem dX10_writeRecords_100 : decode cX10_writeRecords 100 = .ok (.ireturn, 1) := by decide +kernel
set_option maxRecDepth 20000 in
theorem ggX10_outputByte_X10_in : GoodIn wsX10_outputByte wsX10_in := goodIn_r _ [6] (by decide +kernel) (by decide +kernel)
set_option maxRecDepth 20000 in
theorem gX10_outputByte_X10_in : GoodIn wsX10_outputByte (va_wsS RX10 65 yX10_in wsX10_in) := goodIn_app (goodIn_of _ (by decide +kernel)) ggX10_outputByte_X10_in
set_option maxRecDepth 20000 in
theorem ggX10_outputByte_X10_may : GoodIn wsX10_outputByte wsX10_may := goodIn_r _ [10, 11, 12, 13, 14, 15, 16, 17, 18, 19, 20, 21, 22, 23, 24, 25, 26, 27, 28, 29, 30, 31, 32, 33] (by decide +kernel) (by decide +kernel)
set_option maxRecDepth 20000 in
theorem gX10_outputByte_X10_may : GoodIn wsX10_outputByte (wsV RX10 40 RX10 yX10_may wsX10_may) := goodIn_app (goodIn_of _ (by decide +kernel)) ggX10_outputByte_X10_may
theorem dX10_outputByte_0 : decode cX10_outputByte 0 = .ok (.aload_n 0, 1) := by decide +kernel
theorem dX10_outputByte_1 : decode cX10_outputByte 1 = .ok (.iload_n 1, 1) := by decide +kernel
theorem dX10_outputByte_2 : decode cX10_outputByte 2 = .ok (.iconst 0, 1) := by decide +kernel
theorem dX10_outputByte_3 : decode cX10_outputByte 3 = .ok (.aload_n 0, 1) := by decide +kernel
theorem dX10_outputByte_4 : decode cX10_outputByte 4 = .ok (.getfield 469, 3) := by decide +kernel
theorem dX10_outputByte_7 : decode cX10_outputByte 7 = .ok (.iconst 1, 1) := by decide +kernel
theorem dX10_outputByte_8 : decode cX10_outputByte 8 = .ok (.isub, 1) := by decide +kernel
theorem dX10_outputByte_9 : decode cX10_outputByte 9 = .ok (.invokestatic 65, 3) := by decide +kernel
theorem dX10_outputByte_12 : decode cX10_outputByte 12 = .ok (.iconst 1, 1) := by decide +kernel
theorem dX10_outputByte_13 : decode cX10_outputByte 13 = .ok (.iconst 1, 1) := by decide +kernel
theorem dX10_outputByte_14 : decode cX10_outputByte 14 = .ok (.invokevirtual 40, 3) := by decide +kernel
theorem dX10_outputByte_17 : decode cX10_outputByte 17 = .ok (.ifCond .eq 12, 3) := by decide +kernel
theorem dX10_outputByte_20 : decode cX10_outputByte 20 = .ok (.aload_n 0, 1) := by decide +kernel
theorem dX10_outputByte_21 : decode cX10_outputByte 21 = .ok (.getfield 34, 3) := by decide +kernel
theorem dX10_outputByte_24 : decode cX10_outputByte 24 = .ok (.iload_n 1, 1) := by decide +kernel
theorem dX10_outputByte_25 : decode cX10_outputByte 25 = .ok (.baload, 1) := by decide +kernel
theorem dX10_outputByte_26 : decode cX10_outputByte 26 = .ok (.goto 4, 3) := by decide +kernel
theorem dX10_outputByte_29 : decode cX10_outputByte 29 = .ok (.iconst 0, 1) := by decide +kernel
theorem dX10_outputByte_30 : decode cX10_outputByte 30 = .ok (.ireturn, 1) := by decide +kernel
set_option maxRecDepth 20000 in
theorem ggX10_remembers_X10_lays : GoodIn wsX10_remembers wsX10_lays := goodIn_ca (goodIn_r _ [7] (by decide +kernel) (by decide +kernel)) (goodIn_sub (fun _ h => List.mem_cons_of_mem _ (List.mem_append_right _ h)) (by decide +kernel))
set_option maxRecDepth 20000 in
theorem gX10_remembers_X10_lays : GoodIn wsX10_remembers (va_wsS RX10 48 yX10_lays wsX10_lays) := goodIn_app (goodIn_of _ (by decide +kernel)) ggX10_remembers_X10_lays
theorem dX10_remembers_0 : decode cX10_remembers 0 = .ok (.aload_n 0, 1) := by decide +kernel
theorem dX10_remembers_1 : decode cX10_remembers 1 = .ok (.getfield 330, 3) := by decide +kernel
theorem dX10_remembers_4 : decode cX10_remembers 4 = .ok (.bipush 8, 2) := by decide +kernel
theorem dX10_remembers_6 : decode cX10_remembers 6 = .ok (.if_icmp .ne 44, 3) := by decide +kernel
theorem dX10_remembers_9 : decode cX10_remembers 9 = .ok (.iconst 0, 1) := by decide +kernel
theorem dX10_remembers_10 : decode cX10_remembers 10 = .ok (.istore_n 1, 1) := by decide +kernel
theorem dX10_remembers_11 : decode cX10_remembers 11 = .ok (.iload_n 1, 1) := by decide +kernel
theorem dX10_remembers_12 : decode cX10_remembers 12 = .ok (.sipush 2968, 3) := by decide +kernel
theorem dX10_remembers_15 : decode cX10_remembers 15 = .ok (.if_icmp .ge 25, 3) := by decide +kernel
theorem dX10_remembers_18 : decode cX10_remembers 18 = .ok (.aload_n 0, 1) := by decide +kernel
theorem dX10_remembers_19 : decode cX10_remembers 19 = .ok (.getfield 16, 3) := by decide +kernel
theorem dX10_remembers_22 : decode cX10_remembers 22 = .ok (.iload_n 1, 1) := by decide +kernel
theorem dX10_remembers_23 : decode cX10_remembers 23 = .ok (.aload_n 0, 1) := by decide +kernel
theorem dX10_remembers_24 : decode cX10_remembers 24 = .ok (.getfield 16, 3) := by decide +kernel
theorem dX10_remembers_27 : decode cX10_remembers 27 = .ok (.iload_n 1, 1) := by decide +kernel
theorem dX10_remembers_28 : decode cX10_remembers 28 = .ok (.sipush 424, 3) := by decide +kernel
theorem dX10_remembers_31 : decode cX10_remembers 31 = .ok (.iadd, 1) := by decide +kernel
theorem dX10_remembers_32 : decode cX10_remembers 32 = .ok (.iaload, 1) := by decide +kernel
theorem dX10_remembers_33 : decode cX10_remembers 33 = .ok (.iastore, 1) := by decide +kernel
theorem dX10_remembers_34 : decode cX10_remembers 34 = .ok (.iinc 1 1, 3) := by decide +kernel
theorem dX10_remembers_37 : decode cX10_remembers 37 = .ok (.goto (-26), 3) := by decide +kernel
theorem dX10_remembers_40 : decode cX10_remembers 40 = .ok (.aload_n 0, 1) := by decide +kernel
theorem dX10_remembers_41 : decode cX10_remembers 41 = .ok (.dup, 1) := by decide +kernel
theorem dX10_remembers_42 : decode cX10_remembers 42 = .ok (.getfield 330, 3) := by decide +kernel
theorem dX10_remembers_45 : decode cX10_remembers 45 = .ok (.iconst 1, 1) := by decide +kernel
theorem dX10_remembers_46 : decode cX10_remembers 46 = .ok (.isub, 1) := by decide +kernel
theorem dX10_remembers_47 : decode cX10_remembers 47 = .ok (.putfield 330, 3) := by decide +kernel
theorem dX10_remembers_50 : decode cX10_remembers 50 = .ok (.aload_n 0, 1) := by decide +kernel
theorem dX10_remembers_51 : decode cX10_remembers 51 = .ok (.getfield 9, 3) := by decide +kernel
theorem dX10_remembers_54 : decode cX10_remembers 54 = .ok (.iconst 0, 1) := by decide +kernel
theorem dX10_remembers_55 : decode cX10_remembers 55 = .ok (.aload_n 0, 1) := by decide +kernel
theorem dX10_remembers_56 : decode cX10_remembers 56 = .ok (.getfield 16, 3) := by decide +kernel
theorem dX10_remembers_59 : decode cX10_remembers 59 = .ok (.aload_n 0, 1) := by decide +kernel
theorem dX10_remembers_60 : decode cX10_remembers 60 = .ok (.getfield 330, 3) := by decide +kernel
theorem dX10_remembers_63 : decode cX10_remembers 63 = .ok (.sipush 424, 3) := by decide +kernel
theorem dX10_remembers_66 : decode cX10_remembers 66 = .ok (.imul, 1) := by decide +kernel
theorem dX10_remembers_67 : decode cX10_remembers 67 = .ok (.invokestatic 48, 3) := by decide +kernel
theorem dX10_remembers_70 : decode cX10_remembers 70 = .ok (.aload_n 0, 1) := by decide +kernel
theorem dX10_remembers_71 : decode cX10_remembers 71 = .ok (.dup, 1) := by decide +kernel
theorem dX10_remembers_72 : decode cX10_remembers 72 = .ok (.getfield 330, 3) := by decide +kernel
theorem dX10_remembers_75 : decode cX10_remembers 75 = .ok (.iconst 1, 1) := by decide +kernel
theorem dX10_remembers_76 : decode cX10_remembers 76 = .ok (.iadd, 1) := by decide +kernel
theorem dX10_remembers_77 : decode cX10_remembers 77 = .ok (.putfield 330, 3) := by decide +kernel
theorem dX10_remembers_80 : decode cX10_remembers 80 = .ok (.return_, 1) := by decide +kernel
set_option maxRecDepth 20000 in
theorem ggX10_advance_X10_in : GoodIn wsX10_advance wsX10_in := goodIn_r _ [6] (by decide +kernel) (by decide +kernel)
set_option maxRecDepth 20000 in
theorem gX10_advance_X10_in : GoodIn wsX10_advance (va_wsS RX10 65 yX10_in wsX10_in) := goodIn_app (goodIn_of _ (by decide +kernel)) ggX10_advance_X10_in
set_option maxRecDepth 20000 in
theorem ggX10_advance_X10_mayTwo : GoodIn wsX10_advance wsX10_mayTwo := goodIn_r _ [10, 11, 12, 13, 5, 14, 15, 158, 159, 160, 161, 162, 163, 164, 165, 166, 167, 168, 169, 170, 171, 172, 173, 174, 175, 176, 177, 178, 179] (by decide +kernel) (by decide +kernel)
set_option maxRecDepth 20000 in
theorem gX10_advance_X10_mayTwo : GoodIn wsX10_advance (wsV RX10 428 RX10 yX10_mayTwo wsX10_mayTwo) := goodIn_app (goodIn_of _ (by decide +kernel)) ggX10_advance_X10_mayTwo
set_option maxRecDepth 20000 in
theorem ggX10_advance_X10_remembers : GoodIn wsX10_advance wsX10_remembers := goodIn_ca (goodIn_r _ [19, 20, 21, 2, 22, 23, 5, 24, 158, 159, 160, 161, 162, 163, 164, 165, 166, 167, 168, 169, 170, 171, 172, 173, 174, 175, 176, 177, 178, 179] (by decide +kernel) (by decide +kernel)) (goodIn_sub (fun _ h => List.mem_cons_of_mem _ (List.mem_append_right _ h)) (by decide +kernel))
set_option maxRecDepth 20000 in
theorem gX10_advance_X10_remembers : GoodIn wsX10_advance (wsV RX10 481 RX10 yX10_remembers wsX10_remembers) := goodIn_app (goodIn_of _ (by decide +kernel)) ggX10_advance_X10_remembers
set_option maxRecDepth 20000 in
theorem ggX10_advance_X10_passesMany : GoodIn wsX10_advance wsX10_passesMany := goodIn_ca (goodIn_r _ [28, 29, 30, 31, 5, 32, 2, 33, 34, 35, 36, 37, 38, 39, 40, 41, 42, 43, 44, 45, 46, 47, 48, 49, 50, 51, 52, 53, 54, 55, 56, 57, 58, 59, 60, 61, 62, 63, 64, 65, 66, 67, 68, 69, 70, 71, 72, 73, 74, 75, 76, 77, 78, 79, 80, 81, 82, 83, 84, 85, 86, 3, 4, 6, 87, 88, 89, 90, 91, 92, 93, 94, 95, 96, 97, 98, 99, 100, 101, 102, 103, 104, 105, 106, 107, 108, 109, 110, 111, 112, 113, 114, 115, 116, 117, 118, 119, 120, 121, 122, 123, 124, 125, 126, 127, 128, 129, 130, 131, 132, 133, 134, 135, 136, 137, 138, 139, 140, 141, 142, 143, 144, 145, 146, 147, 148, 149, 150, 151, 152, 153, 154, 155, 156, 157, 158, 159, 160, 161, 162, 163, 164, 165, 166, 167, 168, 169, 170, 171, 172, 173, 174, 175, 176, 177, 178, 179] (by decide +kernel) (by decide +kernel)) (goodIn_sub (fun _ h => List.mem_cons_of_mem _ (List.mem_append_right _ h)) (by decide +kernel))
set_option maxRecDepth 20000 in
theorem gX10_advance_X10_passesMany : GoodIn wsX10_advance (wsV RX10 239 RX10 yX10_passesMany wsX10_passesMany) := goodIn_app (goodIn_of _ (by decide +kernel)) ggX10_advance_X10_passesMany
theorem dX10_advance_0 : decode cX10_advance 0 = .ok (.aload_n 0, 1) := by decide +kernel
theorem dX10_advance_1 : decode cX10_advance 1 = .ok (.aload_n 0, 1) := by decide +kernel
theorem dX10_advance_2 : decode cX10_advance 2 = .ok (.getfield 44, 3) := by decide +kernel
theorem dX10_advance_5 : decode cX10_advance 5 = .ok (.iload_n 1, 1) := by decide +kernel
theorem dX10_advance_6 : decode cX10_advance 6 = .ok (.iconst 1, 1) := by decide +kernel
theorem dX10_advance_7 : decode cX10_advance 7 = .ok (.sipush 300, 3) := by decide +kernel
theorem dX10_advance_10 : decode cX10_advance 10 = .ok (.invokestatic 65, 3) := by decide +kernel
theorem dX10_advance_13 : decode cX10_advance 13 = .ok (.invokevirtual 428, 3) := by decide +kernel
theorem dX10_advance_16 : decode cX10_advance 16 = .ok (.ifCond .ne 5, 3) := by decide +kernel
theorem dX10_advance_19 : decode cX10_advance 19 = .ok (.iconst 0, 1) := by decide +kernel
theorem dX10_advance_20 : decode cX10_advance 20 = .ok (.ireturn, 1) := by decide +kernel
theorem dX10_advance_21 : decode cX10_advance 21 = .ok (.aload_n 0, 1) := by decide +kernel
theorem dX10_advance_22 : decode cX10_advance 22 = .ok (.invokevirtual 481, 3) := by decide +kernel
theorem dX10_advance_25 : decode cX10_advance 25 = .ok (.aload_n 0, 1) := by decide +kernel
theorem dX10_advance_26 : decode cX10_advance 26 = .ok (.getfield 9, 3) := by decide +kernel
theorem dX10_advance_29 : decode cX10_advance 29 = .ok (.bipush 12, 2) := by decide +kernel
theorem dX10_advance_31 : decode cX10_advance 31 = .ok (.iaload, 1) := by decide +kernel
theorem dX10_advance_32 : decode cX10_advance 32 = .ok (.istore_n 2, 1) := by decide +kernel
theorem dX10_advance_33 : decode cX10_advance 33 = .ok (.aload_n 0, 1) := by decide +kernel
theorem dX10_advance_34 : decode cX10_advance 34 = .ok (.iload_n 1, 1) := by decide +kernel
theorem dX10_advance_35 : decode cX10_advance 35 = .ok (.invokevirtual 239, 3) := by decide +kernel
theorem dX10_advance_38 : decode cX10_advance 38 = .ok (.aload_n 0, 1) := by decide +kernel
theorem dX10_advance_39 : decode cX10_advance 39 = .ok (.getfield 9, 3) := by decide +kernel
theorem dX10_advance_42 : decode cX10_advance 42 = .ok (.bipush 12, 2) := by decide +kernel
theorem dX10_advance_44 : decode cX10_advance 44 = .ok (.iaload, 1) := by decide +kernel
theorem dX10_advance_45 : decode cX10_advance 45 = .ok (.iload_n 2, 1) := by decide +kernel
theorem dX10_advance_46 : decode cX10_advance 46 = .ok (.isub, 1) := by decide +kernel
theorem dX10_advance_47 : decode cX10_advance 47 = .ok (.ireturn, 1) := by decide +kernel
set_option maxRecDepth 20000 in
theorem ggX10_setPace_X10_isPace : GoodIn wsX10_setPace wsX10_isPace := goodIn_r _ [6, 7, 8, 5, 9] (by decide +kernel) (by decide +kernel)
set_option maxRecDepth 20000 in
theorem gX10_setPace_X10_isPace : GoodIn wsX10_setPace (va_wsS RX10 462 yX10_isPace wsX10_isPace) := goodIn_app (goodIn_of _ (by decide +kernel)) ggX10_setPace_X10_isPace
set_option maxRecDepth 20000 in
theorem ggX10_setPace_X10_mayTwo : GoodIn wsX10_setPace wsX10_mayTwo := goodIn_r _ [13, 14, 15, 16, 5, 17, 18, 28, 29, 30, 31, 32, 33, 34, 35, 36, 37, 38, 39, 40, 41, 42, 43, 44, 45, 46, 47, 48, 49] (by decide +kernel) (by decide +kernel)
set_option maxRecDepth 20000 in
theorem gX10_setPace_X10_mayTwo : GoodIn wsX10_setPace (wsV RX10 428 RX10 yX10_mayTwo wsX10_mayTwo) := goodIn_app (goodIn_of _ (by decide +kernel)) ggX10_setPace_X10_mayTwo
set_option maxRecDepth 20000 in
theorem ggX10_setPace_X10_remembers : GoodIn wsX10_setPace wsX10_remembers := goodIn_ca (goodIn_r _ [22, 23, 24, 2, 25, 26, 5, 27, 28, 29, 30, 31, 32, 33, 34, 35, 36, 37, 38, 39, 40, 41, 42, 43, 44, 45, 46, 47, 48, 49] (by decide +kernel) (by decide +kernel)) (goodIn_sub (fun _ h => List.mem_cons_of_mem _ (List.mem_append_right _ h)) (by decide +kernel))
set_option maxRecDepth 20000 in
theorem gX10_setPace_X10_remembers : GoodIn wsX10_setPace (wsV RX10 481 RX10 yX10_remembers wsX10_remembers) := goodIn_app (goodIn_of _ (by decide +kernel)) ggX10_setPace_X10_remembers
theorem dX10_setPace_0 : decode cX10_setPace 0 = .ok (.aload_n 0, 1) := by decide +kernel
theorem dX10_setPace_1 : decode cX10_setPace 1 = .ok (.aload_n 0, 1) := by decide +kernel
theorem dX10_setPace_2 : decode cX10_setPace 2 = .ok (.getfield 44, 3) := by decide +kernel
theorem dX10_setPace_5 : decode cX10_setPace 5 = .ok (.iload_n 1, 1) := by decide +kernel
theorem dX10_setPace_6 : decode cX10_setPace 6 = .ok (.invokestatic 462, 3) := by decide +kernel
theorem dX10_setPace_9 : decode cX10_setPace 9 = .ok (.invokevirtual 428, 3) := by decide +kernel
theorem dX10_setPace_12 : decode cX10_setPace 12 = .ok (.ifCond .ne 5, 3) := by decide +kernel
theorem dX10_setPace_15 : decode cX10_setPace 15 = .ok (.iconst 0, 1) := by decide +kernel
theorem dX10_setPace_16 : decode cX10_setPace 16 = .ok (.ireturn, 1) := by decide +kernel
theorem dX10_setPace_17 : decode cX10_setPace 17 = .ok (.aload_n 0, 1) := by decide +kernel
theorem dX10_setPace_18 : decode cX10_setPace 18 = .ok (.invokevirtual 481, 3) := by decide +kernel
theorem dX10_setPace_21 : decode cX10_setPace 21 = .ok (.aload_n 0, 1) := by decide +kernel
theorem dX10_setPace_22 : decode cX10_setPace 22 = .ok (.getfield 9, 3) := by decide +kernel
theorem dX10_setPace_25 : decode cX10_setPace 25 = .ok (.iconst 3, 1) := by decide +kernel
theorem dX10_setPace_26 : decode cX10_setPace 26 = .ok (.iaload, 1) := by decide +kernel
theorem dX10_setPace_27 : decode cX10_setPace 27 = .ok (.istore_n 2, 1) := by decide +kernel
theorem dX10_setPace_28 : decode cX10_setPace 28 = .ok (.aload_n 0, 1) := by decide +kernel
theorem dX10_setPace_29 : decode cX10_setPace 29 = .ok (.getfield 9, 3) := by decide +kernel
theorem dX10_setPace_32 : decode cX10_setPace 32 = .ok (.iconst 3, 1) := by decide +kernel
theorem dX10_setPace_33 : decode cX10_setPace 33 = .ok (.iload_n 1, 1) := by decide +kernel
theorem dX10_setPace_34 : decode cX10_setPace 34 = .ok (.iastore, 1) := by decide +kernel
theorem dX10_setPace_35 : decode cX10_setPace 35 = .ok (.iload_n 2, 1) := by decide +kernel
theorem dX10_setPace_36 : decode cX10_setPace 36 = .ok (.ireturn, 1) := by decide +kernel
set_option maxRecDepth 20000 in
theorem ggX10_setCurtain_X10_isColumn : GoodIn wsX10_setCurtain wsX10_isColumn := goodIn_ca (goodIn_r _ [7, 1, 2, 8, 9, 6, 10, 36, 37, 38, 39, 40, 41, 42, 43, 44, 45, 46, 47, 48, 49, 50, 51, 52, 53, 54, 55, 56, 57] (by decide +kernel) (by decide +kernel)) (goodIn_sub (fun _ h => List.mem_cons_of_mem _ (List.mem_append_right _ h)) (by decide +kernel))
set_option maxRecDepth 20000 in
theorem gX10_setCurtain_X10_isColumn : GoodIn wsX10_setCurtain (wsV RX10 432 RX10 yX10_isColumn wsX10_isColumn) := goodIn_app (goodIn_of _ (by decide +kernel)) ggX10_setCurtain_X10_isColumn
set_option maxRecDepth 20000 in
theorem ggX10_setCurtain_X10_mayTwo : GoodIn wsX10_setCurtain wsX10_mayTwo := goodIn_r _ [14, 15, 16, 17, 6, 18, 19, 36, 37, 38, 39, 40, 41, 42, 43, 44, 45, 46, 47, 48, 49, 50, 51, 52, 53, 54, 55, 56, 57] (by decide +kernel) (by decide +kernel)
set_option maxRecDepth 20000 in
theorem gX10_setCurtain_X10_mayTwo : GoodIn wsX10_setCurtain (wsV RX10 428 RX10 yX10_mayTwo wsX10_mayTwo) := goodIn_app (goodIn_of _ (by decide +kernel)) ggX10_setCurtain_X10_mayTwo
set_option maxRecDepth 20000 in
theorem ggX10_setCurtain_X10_remembers : GoodIn wsX10_setCurtain wsX10_remembers := goodIn_ca (goodIn_r _ [23, 24, 25, 2, 26, 27, 6, 28, 36, 37, 38, 39, 40, 41, 42, 43, 44, 45, 46, 47, 48, 49, 50, 51, 52, 53, 54, 55, 56, 57] (by decide +kernel) (by decide +kernel)) (goodIn_sub (fun _ h => List.mem_cons_of_mem _ (List.mem_append_right _ h)) (by decide +kernel))
set_option maxRecDepth 20000 in
theorem gX10_setCurtain_X10_remembers : GoodIn wsX10_setCurtain (wsV RX10 481 RX10 yX10_remembers wsX10_remembers) := goodIn_app (goodIn_of _ (by decide +kernel)) ggX10_setCurtain_X10_remembers
set_option maxRecDepth 20000 in
theorem ggX10_setCurtain_X10_isClosed : GoodIn wsX10_setCurtain wsX10_isClosed := goodIn_ca (goodIn_r _ [32, 2, 36, 37, 38, 39, 40, 41, 42, 43, 44, 45, 46, 47, 48, 49, 50, 51, 52, 53, 54, 55, 56, 57] (by decide +kernel) (by decide +kernel)) (goodIn_sub (fun _ h => List.mem_cons_of_mem _ (List.mem_append_right _ h)) (by decide +kernel))
set_option maxRecDepth 20000 in
theorem gX10_setCurtain_X10_isClosed : GoodIn wsX10_setCurtain (wsV RX10 345 RX10 yX10_isClosed wsX10_isClosed) := goodIn_app (goodIn_of _ (by decide +kernel)) ggX10_setCurtain_X10_isClosed
set_option maxRecDepth 20000 in
theorem ggX10_setCurtain_X10_one : GoodIn wsX10_setCurtain wsX10_one := goodIn_r _ [35] (by decide +kernel) (by decide +kernel)
set_option maxRecDepth 20000 in
theorem gX10_setCurtain_X10_one : GoodIn wsX10_setCurtain (va_wsS RX10 126 yX10_one wsX10_one) := goodIn_app (goodIn_of _ (by decide +kernel)) ggX10_setCurtain_X10_one
theorem dX10_setCurtain_0 : decode cX10_setCurtain 0 = .ok (.aload_n 0, 1) := by decide +kernel
theorem dX10_setCurtain_1 : decode cX10_setCurtain 1 = .ok (.aload_n 0, 1) := by decide +kernel
theorem dX10_setCurtain_2 : decode cX10_setCurtain 2 = .ok (.getfield 44, 3) := by decide +kernel
theorem dX10_setCurtain_5 : decode cX10_setCurtain 5 = .ok (.aload_n 0, 1) := by decide +kernel
theorem dX10_setCurtain_6 : decode cX10_setCurtain 6 = .ok (.iload_n 1, 1) := by decide +kernel
theorem dX10_setCurtain_7 : decode cX10_setCurtain 7 = .ok (.invokevirtual 432, 3) := by decide +kernel
theorem dX10_setCurtain_10 : decode cX10_setCurtain 10 = .ok (.invokevirtual 428, 3) := by decide +kernel
theorem dX10_setCurtain_13 : decode cX10_setCurtain 13 = .ok (.ifCond .ne 5, 3) := by decide +kernel
theorem dX10_setCurtain_16 : decode cX10_setCurtain 16 = .ok (.iconst 0, 1) := by decide +kernel
theorem dX10_setCurtain_17 : decode cX10_setCurtain 17 = .ok (.ireturn, 1) := by decide +kernel
theorem dX10_setCurtain_18 : decode cX10_setCurtain 18 = .ok (.aload_n 0, 1) := by decide +kernel
theorem dX10_setCurtain_19 : decode cX10_setCurtain 19 = .ok (.invokevirtual 481, 3) := by decide +kernel
theorem dX10_setCurtain_22 : decode cX10_setCurtain 22 = .ok (.aload_n 0, 1) := by decide +kernel
theorem dX10_setCurtain_23 : decode cX10_setCurtain 23 = .ok (.iload_n 1, 1) := by decide +kernel
theorem dX10_setCurtain_24 : decode cX10_setCurtain 24 = .ok (.invokevirtual 345, 3) := by decide +kernel
theorem dX10_setCurtain_27 : decode cX10_setCurtain 27 = .ok (.istore_n 3, 1) := by decide +kernel
theorem dX10_setCurtain_28 : decode cX10_setCurtain 28 = .ok (.aload_n 0, 1) := by decide +kernel
theorem dX10_setCurtain_29 : decode cX10_setCurtain 29 = .ok (.getfield 9, 3) := by decide +kernel
theorem dX10_setCurtain_32 : decode cX10_setCurtain 32 = .ok (.bipush 26, 2) := by decide +kernel
theorem dX10_setCurtain_34 : decode cX10_setCurtain 34 = .ok (.iload_n 1, 1) := by decide +kernel
theorem dX10_setCurtain_35 : decode cX10_setCurtain 35 = .ok (.iadd, 1) := by decide +kernel
theorem dX10_setCurtain_36 : decode cX10_setCurtain 36 = .ok (.iload_n 2, 1) := by decide +kernel
theorem dX10_setCurtain_37 : decode cX10_setCurtain 37 = .ok (.invokestatic 126, 3) := by decide +kernel
theorem dX10_setCurtain_40 : decode cX10_setCurtain 40 = .ok (.iastore, 1) := by decide +kernel
theorem dX10_setCurtain_41 : decode cX10_setCurtain 41 = .ok (.iload_n 3, 1) := by decide +kernel
theorem dX10_setCurtain_42 : decode cX10_setCurtain 42 = .ok (.ireturn, 1) := by decide +kernel
set_option maxRecDepth 20000 in
theorem ggX10_placeBowl_X10_isTile : GoodIn wsX10_placeBowl wsX10_isTile := goodIn_ca (goodIn_r _ [7, 1, 8, 9, 10, 6, 11, 2, 12, 13, 14, 37, 38, 39, 40, 41, 42, 43, 44, 45, 46, 47, 48, 49, 50, 51, 52, 53, 54, 55, 56, 57, 58] (by decide +kernel) (by decide +kernel)) (goodIn_sub (fun _ h => List.mem_cons_of_mem _ (List.mem_append_right _ h)) (by decide +kernel))
set_option maxRecDepth 20000 in
theorem gX10_placeBowl_X10_isTile : GoodIn wsX10_placeBowl (wsV RX10 425 RX10 yX10_isTile wsX10_isTile) := goodIn_app (goodIn_of _ (by decide +kernel)) ggX10_placeBowl_X10_isTile
set_option maxRecDepth 20000 in
theorem ggX10_placeBowl_X10_isEmpty : GoodIn wsX10_placeBowl wsX10_isEmpty := goodIn_ca (goodIn_r _ [18, 2, 37, 38, 39, 40, 41, 42, 43, 44, 45, 46, 47, 48, 49, 50, 51, 52, 53, 54, 55, 56, 57, 58] (by decide +kernel) (by decide +kernel)) (goodIn_sub (fun _ h => List.mem_cons_of_mem _ (List.mem_append_right _ h)) (by decide +kernel))
set_option maxRecDepth 20000 in
theorem gX10_placeBowl_X10_isEmpty : GoodIn wsX10_placeBowl (wsV RX10 142 RX10 yX10_isEmpty wsX10_isEmpty) := goodIn_app (goodIn_of _ (by decide +kernel)) ggX10_placeBowl_X10_isEmpty
set_option maxRecDepth 20000 in
theorem ggX10_placeBowl_X10_may : GoodIn wsX10_placeBowl wsX10_may := goodIn_r _ [22, 23, 37, 38, 39, 40, 41, 42, 43, 44, 45, 46, 47, 48, 49, 50, 51, 52, 53, 54, 55, 56, 57, 58] (by decide +kernel) (by decide +kernel)
set_option maxRecDepth 20000 in
theorem gX10_placeBowl_X10_may : GoodIn wsX10_placeBowl (wsV RX10 40 RX10 yX10_may wsX10_may) := goodIn_app (goodIn_of _ (by decide +kernel)) ggX10_placeBowl_X10_may
set_option maxRecDepth 20000 in
theorem ggX10_placeBowl_X10_remembers : GoodIn wsX10_placeBowl wsX10_remembers := goodIn_ca (goodIn_r _ [27, 28, 29, 2, 30, 31, 6, 32, 37, 38, 39, 40, 41, 42, 43, 44, 45, 46, 47, 48, 49, 50, 51, 52, 53, 54, 55, 56, 57, 58] (by decide +kernel) (by decide +kernel)) (goodIn_sub (fun _ h => List.mem_cons_of_mem _ (List.mem_append_right _ h)) (by decide +kernel))
set_option maxRecDepth 20000 in
theorem gX10_placeBowl_X10_remembers : GoodIn wsX10_placeBowl (wsV RX10 481 RX10 yX10_remembers wsX10_remembers) := goodIn_app (goodIn_of _ (by decide +kernel)) ggX10_placeBowl_X10_remembers
set_option maxRecDepth 20000 in
theorem ggX10_placeBowl_X10_bowls : GoodIn wsX10_placeBowl wsX10_bowls := goodIn_ca (goodIn_r _ [36, 2, 8, 9, 10, 6, 11, 37, 38, 39, 40, 41, 42, 43, 44, 45, 46, 47, 48, 49, 50, 51, 52, 53, 54, 55, 56, 57, 58] (by decide +kernel) (by decide +kernel)) (goodIn_sub (fun _ h => List.mem_cons_of_mem _ (List.mem_append_right _ h)) (by decide +kernel))
set_option maxRecDepth 20000 in
theorem gX10_placeBowl_X10_bowls : GoodIn wsX10_placeBowl (wsV RX10 484 RX10 yX10_bowls wsX10_bowls) := goodIn_app (goodIn_of _ (by decide +kernel)) ggX10_placeBowl_X10_bowls
theorem dX10_placeBowl_0 : decode cX10_placeBowl 0 = .ok (.aload_n 0, 1) := by decide +kernel
theorem dX10_placeBowl_1 : decode cX10_placeBowl 1 = .ok (.iload_n 1, 1) := by decide +kernel
theorem dX10_placeBowl_2 : decode cX10_placeBowl 2 = .ok (.invokevirtual 425, 3) := by decide +kernel
theorem dX10_placeBowl_5 : decode cX10_placeBowl 5 = .ok (.istore_n 2, 1) := by decide +kernel
theorem dX10_placeBowl_6 : decode cX10_placeBowl 6 = .ok (.aload_n 0, 1) := by decide +kernel
theorem dX10_placeBowl_7 : decode cX10_placeBowl 7 = .ok (.aload_n 0, 1) := by decide +kernel
theorem dX10_placeBowl_8 : decode cX10_placeBowl 8 = .ok (.getfield 44, 3) := by decide +kernel
theorem dX10_placeBowl_11 : decode cX10_placeBowl 11 = .ok (.iload_n 2, 1) := by decide +kernel
theorem dX10_placeBowl_12 : decode cX10_placeBowl 12 = .ok (.iload_n 2, 1) := by decide +kernel
theorem dX10_placeBowl_13 : decode cX10_placeBowl 13 = .ok (.ifCond .eq 15, 3) := by decide +kernel
theorem dX10_placeBowl_16 : decode cX10_placeBowl 16 = .ok (.aload_n 0, 1) := by decide +kernel
theorem dX10_placeBowl_17 : decode cX10_placeBowl 17 = .ok (.iload_n 1, 1) := by decide +kernel
theorem dX10_placeBowl_18 : decode cX10_placeBowl 18 = .ok (.invokevirtual 142, 3) := by decide +kernel
theorem dX10_placeBowl_21 : decode cX10_placeBowl 21 = .ok (.ifCond .eq 7, 3) := by decide +kernel
theorem dX10_placeBowl_24 : decode cX10_placeBowl 24 = .ok (.iconst 1, 1) := by decide +kernel
theorem dX10_placeBowl_25 : decode cX10_placeBowl 25 = .ok (.goto 4, 3) := by decide +kernel
theorem dX10_placeBowl_28 : decode cX10_placeBowl 28 = .ok (.iconst 0, 1) := by decide +kernel
theorem dX10_placeBowl_29 : decode cX10_placeBowl 29 = .ok (.invokevirtual 40, 3) := by decide +kernel
theorem dX10_placeBowl_32 : decode cX10_placeBowl 32 = .ok (.ifCond .ne 5, 3) := by decide +kernel
theorem dX10_placeBowl_35 : decode cX10_placeBowl 35 = .ok (.iconst 0, 1) := by decide +kernel
theorem dX10_placeBowl_36 : decode cX10_placeBowl 36 = .ok (.ireturn, 1) := by decide +kernel
theorem dX10_placeBowl_37 : decode cX10_placeBowl 37 = .ok (.aload_n 0, 1) := by decide +kernel
theorem dX10_placeBowl_38 : decode cX10_placeBowl 38 = .ok (.invokevirtual 481, 3) := by decide +kernel
theorem dX10_placeBowl_41 : decode cX10_placeBowl 41 = .ok (.aload_n 0, 1) := by decide +kernel
theorem dX10_placeBowl_42 : decode cX10_placeBowl 42 = .ok (.getfield 9, 3) := by decide +kernel
theorem dX10_placeBowl_45 : decode cX10_placeBowl 45 = .ok (.bipush 84, 2) := by decide +kernel
theorem dX10_placeBowl_47 : decode cX10_placeBowl 47 = .ok (.iload_n 1, 1) := by decide +kernel
theorem dX10_placeBowl_48 : decode cX10_placeBowl 48 = .ok (.iadd, 1) := by decide +kernel
theorem dX10_placeBowl_49 : decode cX10_placeBowl 49 = .ok (.iconst 1, 1) := by decide +kernel
theorem dX10_placeBowl_50 : decode cX10_placeBowl 50 = .ok (.iastore, 1) := by decide +kernel
theorem dX10_placeBowl_51 : decode cX10_placeBowl 51 = .ok (.aload_n 0, 1) := by decide +kernel
theorem dX10_placeBowl_52 : decode cX10_placeBowl 52 = .ok (.invokevirtual 484, 3) := by decide +kernel
theorem dX10_placeBowl_55 : decode cX10_placeBowl 55 = .ok (.ireturn, 1) := by decide +kernel
set_option maxRecDepth 20000 in
theorem ggX10_mop_X10_isTile : GoodIn wsX10_mop wsX10_isTile := goodIn_ca (goodIn_r _ [7, 1, 8, 9, 10, 6, 11, 2, 12, 13, 14, 33, 34, 35, 36, 37, 38, 39, 40, 41, 42, 43, 44, 45, 46, 47, 48, 49, 50, 51, 52, 53, 54] (by decide +kernel) (by decide +kernel)) (goodIn_sub (fun _ h => List.mem_cons_of_mem _ (List.mem_append_right _ h)) (by decide +kernel))
set_option maxRecDepth 20000 in
theorem gX10_mop_X10_isTile : GoodIn wsX10_mop (wsV RX10 425 RX10 yX10_isTile wsX10_isTile) := goodIn_app (goodIn_of _ (by decide +kernel)) ggX10_mop_X10_isTile
set_option maxRecDepth 20000 in
theorem ggX10_mop_X10_isDry : GoodIn wsX10_mop wsX10_isDry := goodIn_ca (goodIn_r _ [18, 2, 33, 34, 35, 36, 37, 38, 39, 40, 41, 42, 43, 44, 45, 46, 47, 48, 49, 50, 51, 52, 53, 54] (by decide +kernel) (by decide +kernel)) (goodIn_sub (fun _ h => List.mem_cons_of_mem _ (List.mem_append_right _ h)) (by decide +kernel))
set_option maxRecDepth 20000 in
theorem gX10_mop_X10_isDry : GoodIn wsX10_mop (wsV RX10 145 RX10 yX10_isDry wsX10_isDry) := goodIn_app (goodIn_of _ (by decide +kernel)) ggX10_mop_X10_isDry
set_option maxRecDepth 20000 in
theorem ggX10_mop_X10_may : GoodIn wsX10_mop wsX10_may := goodIn_r _ [22, 23, 33, 34, 35, 36, 37, 38, 39, 40, 41, 42, 43, 44, 45, 46, 47, 48, 49, 50, 51, 52, 53, 54] (by decide +kernel) (by decide +kernel)
set_option maxRecDepth 20000 in
theorem gX10_mop_X10_may : GoodIn wsX10_mop (wsV RX10 40 RX10 yX10_may wsX10_may) := goodIn_app (goodIn_of _ (by decide +kernel)) ggX10_mop_X10_may
set_option maxRecDepth 20000 in
theorem ggX10_mop_X10_remembers : GoodIn wsX10_mop wsX10_remembers := goodIn_ca (goodIn_r _ [27, 28, 29, 2, 30, 31, 6, 32, 33, 34, 35, 36, 37, 38, 39, 40, 41, 42, 43, 44, 45, 46, 47, 48, 49, 50, 51, 52, 53, 54] (by decide +kernel) (by decide +kernel)) (goodIn_sub (fun _ h => List.mem_cons_of_mem _ (List.mem_append_right _ h)) (by decide +kernel))
set_option maxRecDepth 20000 in
theorem gX10_mop_X10_remembers : GoodIn wsX10_mop (wsV RX10 481 RX10 yX10_remembers wsX10_remembers) := goodIn_app (goodIn_of _ (by decide +kernel)) ggX10_mop_X10_remembers
theorem dX10_mop_0 : decode cX10_mop 0 = .ok (.aload_n 0, 1) := by decide +kernel
theorem dX10_mop_1 : decode cX10_mop 1 = .ok (.iload_n 1, 1) := by decide +kernel
theorem dX10_mop_2 : decode cX10_mop 2 = .ok (.invokevirtual 425, 3) := by decide +kernel
theorem dX10_mop_5 : decode cX10_mop 5 = .ok (.istore_n 2, 1) := by decide +kernel
theorem dX10_mop_6 : decode cX10_mop 6 = .ok (.aload_n 0, 1) := by decide +kernel
theorem dX10_mop_7 : decode cX10_mop 7 = .ok (.aload_n 0, 1) := by decide +kernel
theorem dX10_mop_8 : decode cX10_mop 8 = .ok (.getfield 44, 3) := by decide +kernel
theorem dX10_mop_11 : decode cX10_mop 11 = .ok (.iload_n 2, 1) := by decide +kernel
theorem dX10_mop_12 : decode cX10_mop 12 = .ok (.iload_n 2, 1) := by decide +kernel
theorem dX10_mop_13 : decode cX10_mop 13 = .ok (.ifCond .eq 15, 3) := by decide +kernel
theorem dX10_mop_16 : decode cX10_mop 16 = .ok (.aload_n 0, 1) := by decide +kernel
theorem dX10_mop_17 : decode cX10_mop 17 = .ok (.iload_n 1, 1) := by decide +kernel
theorem dX10_mop_18 : decode cX10_mop 18 = .ok (.invokevirtual 145, 3) := by decide +kernel
theorem dX10_mop_21 : decode cX10_mop 21 = .ok (.ifCond .ne 7, 3) := by decide +kernel
theorem dX10_mop_24 : decode cX10_mop 24 = .ok (.iconst 1, 1) := by decide +kernel
theorem dX10_mop_25 : decode cX10_mop 25 = .ok (.goto 4, 3) := by decide +kernel
theorem dX10_mop_28 : decode cX10_mop 28 = .ok (.iconst 0, 1) := by decide +kernel
theorem dX10_mop_29 : decode cX10_mop 29 = .ok (.invokevirtual 40, 3) := by decide +kernel
theorem dX10_mop_32 : decode cX10_mop 32 = .ok (.ifCond .ne 5, 3) := by decide +kernel
theorem dX10_mop_35 : decode cX10_mop 35 = .ok (.iconst 0, 1) := by decide +kernel
theorem dX10_mop_36 : decode cX10_mop 36 = .ok (.ireturn, 1) := by decide +kernel
theorem dX10_mop_37 : decode cX10_mop 37 = .ok (.aload_n 0, 1) := by decide +kernel
theorem dX10_mop_38 : decode cX10_mop 38 = .ok (.invokevirtual 481, 3) := by decide +kernel
theorem dX10_mop_41 : decode cX10_mop 41 = .ok (.aload_n 0, 1) := by decide +kernel
theorem dX10_mop_42 : decode cX10_mop 42 = .ok (.getfield 9, 3) := by decide +kernel
theorem dX10_mop_45 : decode cX10_mop 45 = .ok (.sipush 244, 3) := by decide +kernel
theorem dX10_mop_48 : decode cX10_mop 48 = .ok (.iload_n 1, 1) := by decide +kernel
theorem dX10_mop_49 : decode cX10_mop 49 = .ok (.iadd, 1) := by decide +kernel
theorem dX10_mop_50 : decode cX10_mop 50 = .ok (.iaload, 1) := by decide +kernel
theorem dX10_mop_51 : decode cX10_mop 51 = .ok (.istore_n 3, 1) := by decide +kernel
theorem dX10_mop_52 : decode cX10_mop 52 = .ok (.aload_n 0, 1) := by decide +kernel
theorem dX10_mop_53 : decode cX10_mop 53 = .ok (.getfield 9, 3) := by decide +kernel
theorem dX10_mop_56 : decode cX10_mop 56 = .ok (.sipush 244, 3) := by decide +kernel
theorem dX10_mop_59 : decode cX10_mop 59 = .ok (.iload_n 1, 1) := by decide +kernel
theorem dX10_mop_60 : decode cX10_mop 60 = .ok (.iadd, 1) := by decide +kernel
theorem dX10_mop_61 : decode cX10_mop 61 = .ok (.iconst 0, 1) := by decide +kernel
theorem dX10_mop_62 : decode cX10_mop 62 = .ok (.iastore, 1) := by decide +kernel
theorem dX10_mop_63 : decode cX10_mop 63 = .ok (.iload_n 3, 1) := by decide +kernel
theorem dX10_mop_64 : decode cX10_mop 64 = .ok (.ireturn, 1) := by decide +kernel
set_option maxRecDepth 20000 in
theorem ggX10_turnWalker_X10_mayLook : GoodIn wsX10_turnWalker wsX10_mayLook := goodIn_r _ [6, 7, 8, 9, 10, 5, 11, 12, 22, 23, 24, 25, 26, 27, 28, 29, 30, 31, 32, 33, 34, 35, 36, 37, 38, 39, 40, 41, 42, 43] (by decide +kernel) (by decide +kernel)
set_option maxRecDepth 20000 in
theorem gX10_turnWalker_X10_mayLook : GoodIn wsX10_turnWalker (wsV RX10 419 RX10 yX10_mayLook wsX10_mayLook) := goodIn_app (goodIn_of _ (by decide +kernel)) ggX10_turnWalker_X10_mayLook
set_option maxRecDepth 20000 in
theorem ggX10_turnWalker_X10_remembers : GoodIn wsX10_turnWalker wsX10_remembers := goodIn_ca (goodIn_r _ [16, 17, 18, 1, 19, 20, 5, 21, 22, 23, 24, 25, 26, 27, 28, 29, 30, 31, 32, 33, 34, 35, 36, 37, 38, 39, 40, 41, 42, 43] (by decide +kernel) (by decide +kernel)) (goodIn_sub (fun _ h => List.mem_cons_of_mem _ (List.mem_append_right _ h)) (by decide +kernel))
set_option maxRecDepth 20000 in
theorem gX10_turnWalker_X10_remembers : GoodIn wsX10_turnWalker (wsV RX10 481 RX10 yX10_remembers wsX10_remembers) := goodIn_app (goodIn_of _ (by decide +kernel)) ggX10_turnWalker_X10_remembers
theorem dX10_turnWalker_0 : decode cX10_turnWalker 0 = .ok (.aload_n 0, 1) := by decide +kernel
theorem dX10_turnWalker_1 : decode cX10_turnWalker 1 = .ok (.invokevirtual 419, 3) := by decide +kernel
theorem dX10_turnWalker_4 : decode cX10_turnWalker 4 = .ok (.ifCond .ne 5, 3) := by decide +kernel
theorem dX10_turnWalker_7 : decode cX10_turnWalker 7 = .ok (.iconst 0, 1) := by decide +kernel
theorem dX10_turnWalker_8 : decode cX10_turnWalker 8 = .ok (.ireturn, 1) := by decide +kernel
theorem dX10_turnWalker_9 : decode cX10_turnWalker 9 = .ok (.aload_n 0, 1) := by decide +kernel
theorem dX10_turnWalker_10 : decode cX10_turnWalker 10 = .ok (.invokevirtual 481, 3) := by decide +kernel
theorem dX10_turnWalker_13 : decode cX10_turnWalker 13 = .ok (.aload_n 0, 1) := by decide +kernel
theorem dX10_turnWalker_14 : decode cX10_turnWalker 14 = .ok (.getfield 9, 3) := by decide +kernel
theorem dX10_turnWalker_17 : decode cX10_turnWalker 17 = .ok (.bipush 10, 2) := by decide +kernel
theorem dX10_turnWalker_19 : decode cX10_turnWalker 19 = .ok (.iconst 1, 1) := by decide +kernel
theorem dX10_turnWalker_20 : decode cX10_turnWalker 20 = .ok (.aload_n 0, 1) := by decide +kernel
theorem dX10_turnWalker_21 : decode cX10_turnWalker 21 = .ok (.getfield 9, 3) := by decide +kernel
theorem dX10_turnWalker_24 : decode cX10_turnWalker 24 = .ok (.bipush 10, 2) := by decide +kernel
theorem dX10_turnWalker_26 : decode cX10_turnWalker 26 = .ok (.iaload, 1) := by decide +kernel
theorem dX10_turnWalker_27 : decode cX10_turnWalker 27 = .ok (.isub, 1) := by decide +kernel
theorem dX10_turnWalker_28 : decode cX10_turnWalker 28 = .ok (.iastore, 1) := by decide +kernel
theorem dX10_turnWalker_29 : decode cX10_turnWalker 29 = .ok (.aload_n 0, 1) := by decide +kernel
theorem dX10_turnWalker_30 : decode cX10_turnWalker 30 = .ok (.getfield 9, 3) := by decide +kernel
theorem dX10_turnWalker_33 : decode cX10_turnWalker 33 = .ok (.bipush 10, 2) := by decide +kernel
theorem dX10_turnWalker_35 : decode cX10_turnWalker 35 = .ok (.iaload, 1) := by decide +kernel
theorem dX10_turnWalker_36 : decode cX10_turnWalker 36 = .ok (.iconst 1, 1) := by decide +kernel
theorem dX10_turnWalker_37 : decode cX10_turnWalker 37 = .ok (.if_icmp .ne 7, 3) := by decide +kernel
theorem dX10_turnWalker_40 : decode cX10_turnWalker 40 = .ok (.iconst 1, 1) := by decide +kernel
theorem dX10_turnWalker_41 : decode cX10_turnWalker 41 = .ok (.goto 4, 3) := by decide +kernel
theorem dX10_turnWalker_44 : decode cX10_turnWalker 44 = .ok (.iconst 0, 1) := by decide +kernel
theorem dX10_turnWalker_45 : decode cX10_turnWalker 45 = .ok (.ireturn, 1) := by decide +kernel
set_option maxRecDepth 20000 in
theorem ggX10_undo_X10_may : GoodIn wsX10_undo wsX10_may := goodIn_r _ [8, 9, 13, 14, 15, 16, 17, 18, 19, 20, 21, 22, 23, 24, 25, 26, 27, 28, 29, 30, 31, 32, 33, 34] (by decide +kernel) (by decide +kernel)
set_option maxRecDepth 20000 in
theorem gX10_undo_X10_may : GoodIn wsX10_undo (wsV RX10 40 RX10 yX10_may wsX10_may) := goodIn_app (goodIn_of _ (by decide +kernel)) ggX10_undo_X10_may
set_option maxRecDepth 20000 in
theorem ggX10_undo_X10_lays : GoodIn wsX10_undo wsX10_lays := goodIn_ca (goodIn_r _ [12] (by decide +kernel) (by decide +kernel)) (goodIn_sub (fun _ h => List.mem_cons_of_mem _ (List.mem_append_right _ h)) (by decide +kernel))
set_option maxRecDepth 20000 in
theorem gX10_undo_X10_lays : GoodIn wsX10_undo (va_wsS RX10 48 yX10_lays wsX10_lays) := goodIn_app (goodIn_of _ (by decide +kernel)) ggX10_undo_X10_lays
theorem dX10_undo_0 : decode cX10_undo 0 = .ok (.aload_n 0, 1) := by decide +kernel
theorem dX10_undo_1 : decode cX10_undo 1 = .ok (.aload_n 0, 1) := by decide +kernel
theorem dX10_undo_2 : decode cX10_undo 2 = .ok (.getfield 330, 3) := by decide +kernel
theorem dX10_undo_5 : decode cX10_undo 5 = .ok (.ifCond .le 7, 3) := by decide +kernel
theorem dX10_undo_8 : decode cX10_undo 8 = .ok (.iconst 1, 1) := by decide +kernel
theorem dX10_undo_9 : decode cX10_undo 9 = .ok (.goto 4, 3) := by decide +kernel
theorem dX10_undo_12 : decode cX10_undo 12 = .ok (.iconst 0, 1) := by decide +kernel
theorem dX10_undo_13 : decode cX10_undo 13 = .ok (.iconst 1, 1) := by decide +kernel
theorem dX10_undo_14 : decode cX10_undo 14 = .ok (.iconst 1, 1) := by decide +kernel
theorem dX10_undo_15 : decode cX10_undo 15 = .ok (.invokevirtual 40, 3) := by decide +kernel
theorem dX10_undo_18 : decode cX10_undo 18 = .ok (.ifCond .ne 5, 3) := by decide +kernel
theorem dX10_undo_21 : decode cX10_undo 21 = .ok (.iconst 0, 1) := by decide +kernel
theorem dX10_undo_22 : decode cX10_undo 22 = .ok (.ireturn, 1) := by decide +kernel
theorem dX10_undo_23 : decode cX10_undo 23 = .ok (.aload_n 0, 1) := by decide +kernel
theorem dX10_undo_24 : decode cX10_undo 24 = .ok (.dup, 1) := by decide +kernel
theorem dX10_undo_25 : decode cX10_undo 25 = .ok (.getfield 330, 3) := by decide +kernel
theorem dX10_undo_28 : decode cX10_undo 28 = .ok (.iconst 1, 1) := by decide +kernel
theorem dX10_undo_29 : decode cX10_undo 29 = .ok (.isub, 1) := by decide +kernel
theorem dX10_undo_30 : decode cX10_undo 30 = .ok (.putfield 330, 3) := by decide +kernel
theorem dX10_undo_33 : decode cX10_undo 33 = .ok (.aload_n 0, 1) := by decide +kernel
theorem dX10_undo_34 : decode cX10_undo 34 = .ok (.getfield 16, 3) := by decide +kernel
theorem dX10_undo_37 : decode cX10_undo 37 = .ok (.aload_n 0, 1) := by decide +kernel
theorem dX10_undo_38 : decode cX10_undo 38 = .ok (.getfield 330, 3) := by decide +kernel
theorem dX10_undo_41 : decode cX10_undo 41 = .ok (.sipush 424, 3) := by decide +kernel
theorem dX10_undo_44 : decode cX10_undo 44 = .ok (.imul, 1) := by decide +kernel
theorem dX10_undo_45 : decode cX10_undo 45 = .ok (.aload_n 0, 1) := by decide +kernel
theorem dX10_undo_46 : decode cX10_undo 46 = .ok (.getfield 9, 3) := by decide +kernel
theorem dX10_undo_49 : decode cX10_undo 49 = .ok (.iconst 0, 1) := by decide +kernel
theorem dX10_undo_50 : decode cX10_undo 50 = .ok (.invokestatic 48, 3) := by decide +kernel
theorem dX10_undo_53 : decode cX10_undo 53 = .ok (.aload_n 0, 1) := by decide +kernel
theorem dX10_undo_54 : decode cX10_undo 54 = .ok (.getfield 330, 3) := by decide +kernel
theorem dX10_undo_57 : decode cX10_undo 57 = .ok (.ireturn, 1) := by decide +kernel
theorem dX10_undoCount_0 : decode cX10_undoCount 0 = .ok (.aload_n 0, 1) := by decide +kernel
theorem dX10_undoCount_1 : decode cX10_undoCount 1 = .ok (.iconst 0, 1) := by decide +kernel
theorem dX10_undoCount_2 : decode cX10_undoCount 2 = .ok (.putfield 37, 3) := by decide +kernel
theorem dX10_undoCount_5 : decode cX10_undoCount 5 = .ok (.aload_n 0, 1) := by decide +kernel
theorem dX10_undoCount_6 : decode cX10_undoCount 6 = .ok (.getfield 330, 3) := by decide +kernel
theorem dX10_undoCount_9 : decode cX10_undoCount 9 = .ok (.ireturn, 1) := by decide +kernel
set_option maxRecDepth 20000 in
theorem ggX10_isSlot_X10_in : GoodIn wsX10_isSlot wsX10_in := goodIn_r _ [4] (by decide +kernel) (by decide +kernel)
set_option maxRecDepth 20000 in
theorem gX10_isSlot_X10_in : GoodIn wsX10_isSlot (va_wsS RX10 65 yX10_in wsX10_in) := goodIn_app (goodIn_of _ (by decide +kernel)) ggX10_isSlot_X10_in
theorem dX10_isSlot_0 : decode cX10_isSlot 0 = .ok (.iload_n 0, 1) := by decide +kernel
theorem dX10_isSlot_1 : decode cX10_isSlot 1 = .ok (.iconst 0, 1) := by decide +kernel
theorem dX10_isSlot_2 : decode cX10_isSlot 2 = .ok (.iconst 1, 1) := by decide +kernel
theorem dX10_isSlot_3 : decode cX10_isSlot 3 = .ok (.invokestatic 65, 3) := by decide +kernel
theorem dX10_isSlot_6 : decode cX10_isSlot 6 = .ok (.ireturn, 1) := by decide +kernel
set_option maxRecDepth 20000 in
theorem ggX10_saveState_X10_isSlot : GoodIn wsX10_saveState wsX10_isSlot := goodIn_r _ [8, 9, 10, 7, 11] (by decide +kernel) (by decide +kernel)
set_option maxRecDepth 20000 in
theorem gX10_saveState_X10_isSlot : GoodIn wsX10_saveState (va_wsS RX10 487 yX10_isSlot wsX10_isSlot) := goodIn_app (goodIn_of _ (by decide +kernel)) ggX10_saveState_X10_isSlot
set_option maxRecDepth 20000 in
theorem ggX10_saveState_X10_mayTwo : GoodIn wsX10_saveState wsX10_mayTwo := goodIn_r _ [15, 16, 17, 18, 7, 19, 20, 24, 25, 26, 27, 28, 29, 30, 31, 32, 33, 34, 35, 36, 37, 38, 39, 40, 41, 42, 43, 44, 45] (by decide +kernel) (by decide +kernel)
set_option maxRecDepth 20000 in
theorem gX10_saveState_X10_mayTwo : GoodIn wsX10_saveState (wsV RX10 428 RX10 yX10_mayTwo wsX10_mayTwo) := goodIn_app (goodIn_of _ (by decide +kernel)) ggX10_saveState_X10_mayTwo
set_option maxRecDepth 20000 in
theorem ggX10_saveState_X10_lays : GoodIn wsX10_saveState wsX10_lays := goodIn_ca (goodIn_r _ [23] (by decide +kernel) (by decide +kernel)) (goodIn_sub (fun _ h => List.mem_cons_of_mem _ (List.mem_append_right _ h)) (by decide +kernel))
set_option maxRecDepth 20000 in
theorem gX10_saveState_X10_lays : GoodIn wsX10_saveState (va_wsS RX10 48 yX10_lays wsX10_lays) := goodIn_app (goodIn_of _ (by decide +kernel)) ggX10_saveState_X10_lays
theorem dX10_saveState_0 : decode cX10_saveState 0 = .ok (.aload_n 0, 1) := by decide +kernel
theorem dX10_saveState_1 : decode cX10_saveState 1 = .ok (.aload_n 0, 1) := by decide +kernel
theorem dX10_saveState_2 : decode cX10_saveState 2 = .ok (.getfield 44, 3) := by decide +kernel
theorem dX10_saveState_5 : decode cX10_saveState 5 = .ok (.iload_n 1, 1) := by decide +kernel
theorem dX10_saveState_6 : decode cX10_saveState 6 = .ok (.invokestatic 487, 3) := by decide +kernel
theorem dX10_saveState_9 : decode cX10_saveState 9 = .ok (.invokevirtual 428, 3) := by decide +kernel
theorem dX10_saveState_12 : decode cX10_saveState 12 = .ok (.ifCond .ne 5, 3) := by decide +kernel
theorem dX10_saveState_15 : decode cX10_saveState 15 = .ok (.iconst 0, 1) := by decide +kernel
theorem dX10_saveState_16 : decode cX10_saveState 16 = .ok (.ireturn, 1) := by decide +kernel
theorem dX10_saveState_17 : decode cX10_saveState 17 = .ok (.aload_n 0, 1) := by decide +kernel
theorem dX10_saveState_18 : decode cX10_saveState 18 = .ok (.getfield 9, 3) := by decide +kernel
theorem dX10_saveState_21 : decode cX10_saveState 21 = .ok (.iconst 0, 1) := by decide +kernel
theorem dX10_saveState_22 : decode cX10_saveState 22 = .ok (.aload_n 0, 1) := by decide +kernel
theorem dX10_saveState_23 : decode cX10_saveState 23 = .ok (.getfield 19, 3) := by decide +kernel
theorem dX10_saveState_26 : decode cX10_saveState 26 = .ok (.iload_n 1, 1) := by decide +kernel
theorem dX10_saveState_27 : decode cX10_saveState 27 = .ok (.sipush 424, 3) := by decide +kernel
theorem dX10_saveState_30 : decode cX10_saveState 30 = .ok (.imul, 1) := by decide +kernel
theorem dX10_saveState_31 : decode cX10_saveState 31 = .ok (.invokestatic 48, 3) := by decide +kernel
theorem dX10_saveState_34 : decode cX10_saveState 34 = .ok (.aload_n 0, 1) := by decide +kernel
theorem dX10_saveState_35 : decode cX10_saveState 35 = .ok (.getfield 22, 3) := by decide +kernel
theorem dX10_saveState_38 : decode cX10_saveState 38 = .ok (.iload_n 1, 1) := by decide +kernel
theorem dX10_saveState_39 : decode cX10_saveState 39 = .ok (.iconst 1, 1) := by decide +kernel
theorem dX10_saveState_40 : decode cX10_saveState 40 = .ok (.bastore, 1) := by decide +kernel
theorem dX10_saveState_41 : decode cX10_saveState 41 = .ok (.aload_n 0, 1) := by decide +kernel
theorem dX10_saveState_42 : decode cX10_saveState 42 = .ok (.getfield 9, 3) := by decide +kernel
theorem dX10_saveState_45 : decode cX10_saveState 45 = .ok (.bipush 6, 2) := by decide +kernel
theorem dX10_saveState_47 : decode cX10_saveState 47 = .ok (.iaload, 1) := by decide +kernel
theorem dX10_saveState_48 : decode cX10_saveState 48 = .ok (.ireturn, 1) := by decide +kernel
set_option maxRecDepth 20000 in
theorem ggX10_restoreState_X10_isSlot : GoodIn wsX10_restoreState wsX10_isSlot := goodIn_r _ [8, 9, 10, 7, 11] (by decide +kernel) (by decide +kernel)
set_option maxRecDepth 20000 in
theorem gX10_restoreState_X10_isSlot : GoodIn wsX10_restoreState (va_wsS RX10 487 yX10_isSlot wsX10_isSlot) := goodIn_app (goodIn_of _ (by decide +kernel)) ggX10_restoreState_X10_isSlot
set_option maxRecDepth 20000 in
theorem ggX10_restoreState_X10_mayTwo : GoodIn wsX10_restoreState wsX10_mayTwo := goodIn_r _ [15, 16, 17, 18, 7, 19, 20, 24, 25, 26, 27, 28, 29, 30, 31, 32, 33, 34, 35, 36, 37, 38, 39, 40, 41, 42, 43, 44, 45] (by decide +kernel) (by decide +kernel)
set_option maxRecDepth 20000 in
theorem gX10_restoreState_X10_mayTwo : GoodIn wsX10_restoreState (wsV RX10 428 RX10 yX10_mayTwo wsX10_mayTwo) := goodIn_app (goodIn_of _ (by decide +kernel)) ggX10_restoreState_X10_mayTwo
set_option maxRecDepth 20000 in
theorem ggX10_restoreState_X10_lays : GoodIn wsX10_restoreState wsX10_lays := goodIn_ca (goodIn_r _ [23] (by decide +kernel) (by decide +kernel)) (goodIn_sub (fun _ h => List.mem_cons_of_mem _ (List.mem_append_right _ h)) (by decide +kernel))
set_option maxRecDepth 20000 in
theorem gX10_restoreState_X10_lays : GoodIn wsX10_restoreState (va_wsS RX10 48 yX10_lays wsX10_lays) := goodIn_app (goodIn_of _ (by decide +kernel)) ggX10_restoreState_X10_lays
theorem dX10_restoreState_0 : decode cX10_restoreState 0 = .ok (.iload_n 1, 1) := by decide +kernel
theorem dX10_restoreState_1 : decode cX10_restoreState 1 = .ok (.invokestatic 487, 3) := by decide +kernel
theorem dX10_restoreState_4 : decode cX10_restoreState 4 = .ok (.istore_n 2, 1) := by decide +kernel
theorem dX10_restoreState_5 : decode cX10_restoreState 5 = .ok (.aload_n 0, 1) := by decide +kernel
theorem dX10_restoreState_6 : decode cX10_restoreState 6 = .ok (.iload_n 2, 1) := by decide +kernel
theorem dX10_restoreState_7 : decode cX10_restoreState 7 = .ok (.iload_n 2, 1) := by decide +kernel
theorem dX10_restoreState_8 : decode cX10_restoreState 8 = .ok (.ifCond .eq 16, 3) := by decide +kernel
theorem dX10_restoreState_11 : decode cX10_restoreState 11 = .ok (.aload_n 0, 1) := by decide +kernel
theorem dX10_restoreState_12 : decode cX10_restoreState 12 = .ok (.getfield 22, 3) := by decide +kernel
theorem dX10_restoreState_15 : decode cX10_restoreState 15 = .ok (.iload_n 1, 1) := by decide +kernel
theorem dX10_restoreState_16 : decode cX10_restoreState 16 = .ok (.baload, 1) := by decide +kernel
theorem dX10_restoreState_17 : decode cX10_restoreState 17 = .ok (.ifCond .eq 7, 3) := by decide +kernel
theorem dX10_restoreState_20 : decode cX10_restoreState 20 = .ok (.iconst 1, 1) := by decide +kernel
theorem dX10_restoreState_21 : decode cX10_restoreState 21 = .ok (.goto 4, 3) := by decide +kernel
theorem dX10_restoreState_24 : decode cX10_restoreState 24 = .ok (.iconst 0, 1) := by decide +kernel
theorem dX10_restoreState_25 : decode cX10_restoreState 25 = .ok (.invokevirtual 428, 3) := by decide +kernel
theorem dX10_restoreState_28 : decode cX10_restoreState 28 = .ok (.ifCond .ne 5, 3) := by decide +kernel
theorem dX10_restoreState_31 : decode cX10_restoreState 31 = .ok (.iconst 0, 1) := by decide +kernel
theorem dX10_restoreState_32 : decode cX10_restoreState 32 = .ok (.ireturn, 1) := by decide +kernel
theorem dX10_restoreState_33 : decode cX10_restoreState 33 = .ok (.aload_n 0, 1) := by decide +kernel
theorem dX10_restoreState_34 : decode cX10_restoreState 34 = .ok (.getfield 19, 3) := by decide +kernel
theorem dX10_restoreState_37 : decode cX10_restoreState 37 = .ok (.iload_n 1, 1) := by decide +kernel
theorem dX10_restoreState_38 : decode cX10_restoreState 38 = .ok (.sipush 424, 3) := by decide +kernel
theorem dX10_restoreState_41 : decode cX10_restoreState 41 = .ok (.imul, 1) := by decide +kernel
theorem dX10_restoreState_42 : decode cX10_restoreState 42 = .ok (.aload_n 0, 1) := by decide +kernel
theorem dX10_restoreState_43 : decode cX10_restoreState 43 = .ok (.getfield 9, 3) := by decide +kernel
theorem dX10_restoreState_46 : decode cX10_restoreState 46 = .ok (.iconst 0, 1) := by decide +kernel
theorem dX10_restoreState_47 : decode cX10_restoreState 47 = .ok (.invokestatic 48, 3) := by decide +kernel
theorem dX10_restoreState_50 : decode cX10_restoreState 50 = .ok (.aload_n 0, 1) := by decide +kernel
theorem dX10_restoreState_51 : decode cX10_restoreState 51 = .ok (.iconst 0, 1) := by decide +kernel
theorem dX10_restoreState_52 : decode cX10_restoreState 52 = .ok (.putfield 330, 3) := by decide +kernel
theorem dX10_restoreState_55 : decode cX10_restoreState 55 = .ok (.aload_n 0, 1) := by decide +kernel
theorem dX10_restoreState_56 : decode cX10_restoreState 56 = .ok (.getfield 9, 3) := by decide +kernel
theorem dX10_restoreState_59 : decode cX10_restoreState 59 = .ok (.bipush 6, 2) := by decide +kernel
theorem dX10_restoreState_61 : decode cX10_restoreState 61 = .ok (.iaload, 1) := by decide +kernel
theorem dX10_restoreState_62 : decode cX10_restoreState 62 = .ok (.ireturn, 1) := by decide +kernel
set_option maxRecDepth 20000 in
theorem ggJ5_init_d00df_J2_newBytesFor_77867 : GoodIn wsJ5_init_d00df wsJ2_newBytesFor_77867 := goodIn_r _ [11, 5, 12, 13, 10, 14, 15] (by decide +kernel) (by decide +kernel)
set_option maxRecDepth 20000 in
theorem gJ5_init_d00df_J2_newBytesFor_77867 : GoodIn wsJ5_init_d00df (va_wsS RJ5 26 yJ2_newBytesFor_77867 wsJ2_newBytesFor_77867) := goodIn_app (goodIn_of _ (by decide +kernel)) ggJ5_init_d00df_J2_newBytesFor_77867
theorem dJ5_init_d00df_0 : decode cJ5_init_d00df 0 = .ok (.aload_n 0, 1) := by decide +kernel
theorem dJ5_init_d00df_1 : decode cJ5_init_d00df 1 = .ok (.invokespecial 3, 3) := by decide +kernel
theorem dJ5_init_d00df_4 : decode cJ5_init_d00df 4 = .ok (.getstatic 18, 3) := by decide +kernel
theorem dJ5_init_d00df_7 : decode cJ5_init_d00df 7 = .ok (.ifCond .eq 18, 3) := by decide +kernel
theorem dJ5_init_d00df_10 : decode cJ5_init_d00df 10 = .ok (.aload_n 0, 1) := by decide +kernel
theorem dJ5_init_d00df_11 : decode cJ5_init_d00df 11 = .ok (.iload_n 1, 1) := by decide +kernel
theorem dJ5_init_d00df_12 : decode cJ5_init_d00df 12 = .ok (.newarray .byte, 2) := by decide +kernel
theorem dJ5_init_d00df_14 : decode cJ5_init_d00df 14 = .ok (.putfield 15, 3) := by decide +kernel
theorem dJ5_init_d00df_17 : decode cJ5_init_d00df 17 = .ok (.aload_n 0, 1) := by decide +kernel
theorem dJ5_init_d00df_18 : decode cJ5_init_d00df 18 = .ok (.iconst 0, 1) := by decide +kernel
theorem dJ5_init_d00df_19 : decode cJ5_init_d00df 19 = .ok (.putfield 22, 3) := by decide +kernel
theorem dJ5_init_d00df_22 : decode cJ5_init_d00df 22 = .ok (.goto 16, 3) := by decide +kernel
theorem dJ5_init_d00df_25 : decode cJ5_init_d00df 25 = .ok (.aload_n 0, 1) := by decide +kernel
theorem dJ5_init_d00df_26 : decode cJ5_init_d00df 26 = .ok (.iload_n 1, 1) := by decide +kernel
theorem dJ5_init_d00df_27 : decode cJ5_init_d00df 27 = .ok (.invokestatic 26, 3) := by decide +kernel
theorem dJ5_init_d00df_30 : decode cJ5_init_d00df 30 = .ok (.putfield 15, 3) := by decide +kernel
theorem dJ5_init_d00df_33 : decode cJ5_init_d00df 33 = .ok (.aload_n 0, 1) := by decide +kernel
theorem dJ5_init_d00df_34 : decode cJ5_init_d00df 34 = .ok (.iconst 1, 1) := by decide +kernel
theorem dJ5_init_d00df_35 : decode cJ5_init_d00df 35 = .ok (.putfield 22, 3) := by decide +kernel
theorem dJ5_init_d00df_38 : decode cJ5_init_d00df 38 = .ok (.return_, 1) := by decide +kernel
theorem dJ5_length_8abf5_0 : decode cJ5_length_8abf5 0 = .ok (.aload_n 0, 1) := by decide +kernel
theorem dJ5_length_8abf5_1 : decode cJ5_length_8abf5 1 = .ok (.getfield 79, 3) := by decide +kernel
theorem dJ5_length_8abf5_4 : decode cJ5_length_8abf5 4 = .ok (.ireturn, 1) := by decide +kernel
set_option maxRecDepth 20000 in
theorem ggJ5_ensureCapacityInternal_d00df_J5_newCapacity_0f7a4 : GoodIn wsJ5_ensureCapacityInternal_d00df wsJ5_newCapacity_0f7a4 := goodIn_r _ [8, 1, 2, 9, 10, 11, 12, 13, 14, 15, 16, 17, 18, 19, 20, 21, 40, 41, 42, 43] (by decide +kernel) (by decide +kernel)
set_option maxRecDepth 20000 in
theorem gJ5_ensureCapacityInternal_d00df_J5_newCapacity_0f7a4_u104J4 : GoodIn wsJ5_ensureCapacityInternal_d00df (va_wsU RJ5 104 RJ4 "java/lang/AbstractStringBuilder" ⟨"java/lang/AbstractStringBuilder", "newCapacity", "(I)I"⟩ yJ5_newCapacity_0f7a4 wsJ5_newCapacity_0f7a4) := goodIn_app (goodIn_of _ (by decide +kernel)) ggJ5_ensureCapacityInternal_d00df_J5_newCapacity_0f7a4
set_option maxRecDepth 20000 in
theorem ggJ5_ensureCapacityInternal_d00df_J7_copyOf_9075b : GoodIn wsJ5_ensureCapacityInternal_d00df wsJ7_copyOf_9075b := goodIn_r _ [25, 26, 27, 28, 29, 30, 31, 32, 33, 34, 16, 35, 36, 37, 38, 39] (by decide +kernel) (by decide +kernel)
set_option maxRecDepth 20000 in
theorem gJ5_ensureCapacityInternal_d00df_J7_copyOf_9075b : GoodIn wsJ5_ensureCapacityInternal_d00df (va_wsS RJ5 108 yJ7_copyOf_9075b wsJ7_copyOf_9075b) := goodIn_app (goodIn_of _ (by decide +kernel)) ggJ5_ensureCapacityInternal_d00df_J7_copyOf_9075b
theorem dJ5_ensureCapacityInternal_d00df_0 : decode cJ5_ensureCapacityInternal_d00df 0 = .ok (.aload_n 0, 1) := by decide +kernel
theorem dJ5_ensureCapacityInternal_d00df_1 : decode cJ5_ensureCapacityInternal_d00df 1 = .ok (.getfield 15, 3) := by decide +kernel
theorem dJ5_ensureCapacityInternal_d00df_4 : decode cJ5_ensureCapacityInternal_d00df 4 = .ok (.arraylength, 1) := by decide +kernel
theorem dJ5_ensureCapacityInternal_d00df_5 : decode cJ5_ensureCapacityInternal_d00df 5 = .ok (.aload_n 0, 1) := by decide +kernel
theorem dJ5_ensureCapacityInternal_d00df_6 : decode cJ5_ensureCapacityInternal_d00df 6 = .ok (.getfield 22, 3) := by decide +kernel
theorem dJ5_ensureCapacityInternal_d00df_9 : decode cJ5_ensureCapacityInternal_d00df 9 = .ok (.ishr, 1) := by decide +kernel
theorem dJ5_ensureCapacityInternal_d00df_10 : decode cJ5_ensureCapacityInternal_d00df 10 = .ok (.istore_n 2, 1) := by decide +kernel
theorem dJ5_ensureCapacityInternal_d00df_11 : decode cJ5_ensureCapacityInternal_d00df 11 = .ok (.iload_n 1, 1) := by decide +kernel
theorem dJ5_ensureCapacityInternal_d00df_12 : decode cJ5_ensureCapacityInternal_d00df 12 = .ok (.iload_n 2, 1) := by decide +kernel
theorem dJ5_ensureCapacityInternal_d00df_13 : decode cJ5_ensureCapacityInternal_d00df 13 = .ok (.isub, 1) := by decide +kernel
theorem dJ5_ensureCapacityInternal_d00df_14 : decode cJ5_ensureCapacityInternal_d00df 14 = .ok (.ifCond .le 24, 3) := by decide +kernel
theorem dJ5_ensureCapacityInternal_d00df_17 : decode cJ5_ensureCapacityInternal_d00df 17 = .ok (.aload_n 0, 1) := by decide +kernel
theorem dJ5_ensureCapacityInternal_d00df_18 : decode cJ5_ensureCapacityInternal_d00df 18 = .ok (.aload_n 0, 1) := by decide +kernel
theorem dJ5_ensureCapacityInternal_d00df_19 : decode cJ5_ensureCapacityInternal_d00df 19 = .ok (.getfield 15, 3) := by decide +kernel
theorem dJ5_ensureCapacityInternal_d00df_22 : decode cJ5_ensureCapacityInternal_d00df 22 = .ok (.aload_n 0, 1) := by decide +kernel
theorem dJ5_ensureCapacityInternal_d00df_23 : decode cJ5_ensureCapacityInternal_d00df 23 = .ok (.iload_n 1, 1) := by decide +kernel
theorem dJ5_ensureCapacityInternal_d00df_24 : decode cJ5_ensureCapacityInternal_d00df 24 = .ok (.invokevirtual 104, 3) := by decide +kernel
theorem dJ5_ensureCapacityInternal_d00df_27 : decode cJ5_ensureCapacityInternal_d00df 27 = .ok (.aload_n 0, 1) := by decide +kernel
theorem dJ5_ensureCapacityInternal_d00df_28 : decode cJ5_ensureCapacityInternal_d00df 28 = .ok (.getfield 22, 3) := by decide +kernel
theorem dJ5_ensureCapacityInternal_d00df_31 : decode cJ5_ensureCapacityInternal_d00df 31 = .ok (.ishl, 1) := by decide +kernel
theorem dJ5_ensureCapacityInternal_d00df_32 : decode cJ5_ensureCapacityInternal_d00df 32 = .ok (.invokestatic 108, 3) := by decide +kernel
theorem dJ5_ensureCapacityInternal_d00df_35 : decode cJ5_ensureCapacityInternal_d00df 35 = .ok (.putfield 15, 3) := by decide +kernel
theorem dJ5_ensureCapacityInternal_d00df_38 : decode cJ5_ensureCapacityInternal_d00df 38 = .ok (.return_, 1) := by decide +kernel
set_option maxRecDepth 20000 in
theorem ggJ5_newCapacity_0f7a4_J8_newLength_cabcc : GoodIn wsJ5_newCapacity_0f7a4 wsJ8_newLength_cabcc := goodIn_r _ [7, 8, 9, 10, 11, 12, 13, 14, 6, 15] (by decide +kernel) (by decide +kernel)
set_option maxRecDepth 20000 in
theorem gJ5_newCapacity_0f7a4_J8_newLength_cabcc : GoodIn wsJ5_newCapacity_0f7a4 (va_wsS RJ5 114 yJ8_newLength_cabcc wsJ8_newLength_cabcc) := goodIn_app (goodIn_of _ (by decide +kernel)) ggJ5_newCapacity_0f7a4_J8_newLength_cabcc
theorem dJ5_newCapacity_0f7a4_0 : decode cJ5_newCapacity_0f7a4 0 = .ok (.aload_n 0, 1) := by decide +kernel
theorem dJ5_newCapacity_0f7a4_1 : decode cJ5_newCapacity_0f7a4 1 = .ok (.getfield 15, 3) := by decide +kernel
theorem dJ5_newCapacity_0f7a4_4 : decode cJ5_newCapacity_0f7a4 4 = .ok (.arraylength, 1) := by decide +kernel
theorem dJ5_newCapacity_0f7a4_5 : decode cJ5_newCapacity_0f7a4 5 = .ok (.istore_n 2, 1) := by decide +kernel
theorem dJ5_newCapacity_0f7a4_6 : decode cJ5_newCapacity_0f7a4 6 = .ok (.iload_n 1, 1) := by decide +kernel
theorem dJ5_newCapacity_0f7a4_7 : decode cJ5_newCapacity_0f7a4 7 = .ok (.aload_n 0, 1) := by decide +kernel
theorem dJ5_newCapacity_0f7a4_8 : decode cJ5_newCapacity_0f7a4 8 = .ok (.getfield 22, 3) := by decide +kernel
theorem dJ5_newCapacity_0f7a4_11 : decode cJ5_newCapacity_0f7a4 11 = .ok (.ishl, 1) := by decide +kernel
theorem dJ5_newCapacity_0f7a4_12 : decode cJ5_newCapacity_0f7a4 12 = .ok (.istore_n 3, 1) := by decide +kernel
theorem dJ5_newCapacity_0f7a4_13 : decode cJ5_newCapacity_0f7a4 13 = .ok (.iload_n 3, 1) := by decide +kernel
theorem dJ5_newCapacity_0f7a4_14 : decode cJ5_newCapacity_0f7a4 14 = .ok (.iload_n 2, 1) := by decide +kernel
theorem dJ5_newCapacity_0f7a4_15 : decode cJ5_newCapacity_0f7a4 15 = .ok (.isub, 1) := by decide +kernel
theorem dJ5_newCapacity_0f7a4_16 : decode cJ5_newCapacity_0f7a4 16 = .ok (.istore 4, 2) := by decide +kernel
theorem dJ5_newCapacity_0f7a4_18 : decode cJ5_newCapacity_0f7a4 18 = .ok (.iload_n 2, 1) := by decide +kernel
theorem dJ5_newCapacity_0f7a4_19 : decode cJ5_newCapacity_0f7a4 19 = .ok (.iload 4, 2) := by decide +kernel
theorem dJ5_newCapacity_0f7a4_21 : decode cJ5_newCapacity_0f7a4 21 = .ok (.iload_n 2, 1) := by decide +kernel
theorem dJ5_newCapacity_0f7a4_22 : decode cJ5_newCapacity_0f7a4 22 = .ok (.iconst 2, 1) := by decide +kernel
theorem dJ5_newCapacity_0f7a4_23 : decode cJ5_newCapacity_0f7a4 23 = .ok (.aload_n 0, 1) := by decide +kernel
theorem dJ5_newCapacity_0f7a4_24 : decode cJ5_newCapacity_0f7a4 24 = .ok (.getfield 22, 3) := by decide +kernel
theorem dJ5_newCapacity_0f7a4_27 : decode cJ5_newCapacity_0f7a4 27 = .ok (.ishl, 1) := by decide +kernel
theorem dJ5_newCapacity_0f7a4_28 : decode cJ5_newCapacity_0f7a4 28 = .ok (.iadd, 1) := by decide +kernel
theorem dJ5_newCapacity_0f7a4_29 : decode cJ5_newCapacity_0f7a4 29 = .ok (.invokestatic 114, 3) := by decide +kernel
theorem dJ5_newCapacity_0f7a4_32 : decode cJ5_newCapacity_0f7a4 32 = .ok (.istore 5, 2) := by decide +kernel
theorem dJ5_newCapacity_0f7a4_34 : decode cJ5_newCapacity_0f7a4 34 = .ok (.iload 5, 2) := by decide +kernel
theorem dJ5_newCapacity_0f7a4_36 : decode cJ5_newCapacity_0f7a4 36 = .ok (.ldc 39, 2) := by decide +kernel
theorem dJ5_newCapacity_0f7a4_38 : decode cJ5_newCapacity_0f7a4 38 = .ok (.if_icmp .ne 13, 3) := by decide +kernel
theorem dJ5_newCapacity_0f7a4_41 : decode cJ5_newCapacity_0f7a4 41 = .ok (.new 120, 3) := by decide +kernel
theorem dJ5_newCapacity_0f7a4_44 : decode cJ5_newCapacity_0f7a4 44 = .ok (.dup, 1) := by decide +kernel
theorem dJ5_newCapacity_0f7a4_45 : decode cJ5_newCapacity_0f7a4 45 = .ok (.ldc 122, 2) := by decide +kernel
theorem dJ5_newCapacity_0f7a4_47 : decode cJ5_newCapacity_0f7a4 47 = .ok (.invokespecial 124, 3) := by decide +kernel
theorem dJ5_newCapacity_0f7a4_50 : decode cJ5_newCapacity_0f7a4 50 = .ok (.athrow, 1) := by decide +kernel
theorem dJ5_newCapacity_0f7a4_51 : decode cJ5_newCapacity_0f7a4 51 = .ok (.iload 5, 2) := by decide +kernel
theorem dJ5_newCapacity_0f7a4_53 : decode cJ5_newCapacity_0f7a4 53 = .ok (.aload_n 0, 1) := by decide +kernel
theorem dJ5_newCapacity_0f7a4_54 : decode cJ5_newCapacity_0f7a4 54 = .ok (.getfield 22, 3) := by decide +kernel
theorem dJ5_newCapacity_0f7a4_57 : decode cJ5_newCapacity_0f7a4 57 = .ok (.ishr, 1) := by decide +kernel
theorem dJ5_newCapacity_0f7a4_58 : decode cJ5_newCapacity_0f7a4 58 = .ok (.ireturn, 1) := by decide +kernel
set_option maxRecDepth 20000 in
theorem ggJ5_inflate_da8c8_J5_isLatin1_aae02 : GoodIn wsJ5_inflate_da8c8 wsJ5_isLatin1_aae02 := goodIn_r _ [9, 10, 3, 48, 49, 50, 51] (by decide +kernel) (by decide +kernel)
set_option maxRecDepth 20000 in
theorem gJ5_inflate_da8c8_J5_isLatin1_aae02_u83J4 : GoodIn wsJ5_inflate_da8c8 (va_wsU RJ5 83 RJ4 "java/lang/AbstractStringBuilder" ⟨"java/lang/AbstractStringBuilder", "isLatin1", "()Z"⟩ yJ5_isLatin1_aae02 wsJ5_isLatin1_aae02) := goodIn_app (goodIn_of _ (by decide +kernel)) ggJ5_inflate_da8c8_J5_isLatin1_aae02
set_option maxRecDepth 20000 in
theorem ggJ5_inflate_da8c8_J2_newBytesFor_77867 : GoodIn wsJ5_inflate_da8c8 wsJ2_newBytesFor_77867 := goodIn_r _ [14, 15, 16, 17, 13, 18, 19] (by decide +kernel) (by decide +kernel)
set_option maxRecDepth 20000 in
theorem gJ5_inflate_da8c8_J2_newBytesFor_77867 : GoodIn wsJ5_inflate_da8c8 (va_wsS RJ5 26 yJ2_newBytesFor_77867 wsJ2_newBytesFor_77867) := goodIn_app (goodIn_of _ (by decide +kernel)) ggJ5_inflate_da8c8_J2_newBytesFor_77867
set_option maxRecDepth 20000 in
theorem ggJ5_inflate_da8c8_J1_inflate_0e8fd : GoodIn wsJ5_inflate_da8c8 wsJ1_inflate_0e8fd := goodIn_r _ [23, 24, 25, 13, 26, 27, 28, 29, 30, 31, 32, 33, 34, 35, 36, 37, 38, 39, 40, 41, 42, 43, 44, 45, 46, 47] (by decide +kernel) (by decide +kernel)
set_option maxRecDepth 20000 in
theorem gJ5_inflate_da8c8_J1_inflate_0e8fd : GoodIn wsJ5_inflate_da8c8 (va_wsS RJ5 125 yJ1_inflate_0e8fd wsJ1_inflate_0e8fd) := goodIn_app (goodIn_of _ (by decide +kernel)) ggJ5_inflate_da8c8_J1_inflate_0e8fd
theorem dJ5_inflate_da8c8_0 : decode cJ5_inflate_da8c8 0 = .ok (.aload_n 0, 1) := by decide +kernel
theorem dJ5_inflate_da8c8_1 : decode cJ5_inflate_da8c8 1 = .ok (.invokevirtual 83, 3) := by decide +kernel
theorem dJ5_inflate_da8c8_4 : decode cJ5_inflate_da8c8 4 = .ok (.ifCond .ne 4, 3) := by decide +kernel
theorem dJ5_inflate_da8c8_7 : decode cJ5_inflate_da8c8 7 = .ok (.return_, 1) := by decide +kernel
theorem dJ5_inflate_da8c8_8 : decode cJ5_inflate_da8c8 8 = .ok (.aload_n 0, 1) := by decide +kernel
theorem dJ5_inflate_da8c8_9 : decode cJ5_inflate_da8c8 9 = .ok (.getfield 15, 3) := by decide +kernel
theorem dJ5_inflate_da8c8_12 : decode cJ5_inflate_da8c8 12 = .ok (.arraylength, 1) := by decide +kernel
theorem dJ5_inflate_da8c8_13 : decode cJ5_inflate_da8c8 13 = .ok (.invokestatic 26, 3) := by decide +kernel
theorem dJ5_inflate_da8c8_16 : decode cJ5_inflate_da8c8 16 = .ok (.astore_n 1, 1) := by decide +kernel
theorem dJ5_inflate_da8c8_17 : decode cJ5_inflate_da8c8 17 = .ok (.aload_n 0, 1) := by decide +kernel
theorem dJ5_inflate_da8c8_18 : decode cJ5_inflate_da8c8 18 = .ok (.getfield 15, 3) := by decide +kernel
theorem dJ5_inflate_da8c8_21 : decode cJ5_inflate_da8c8 21 = .ok (.iconst 0, 1) := by decide +kernel
theorem dJ5_inflate_da8c8_22 : decode cJ5_inflate_da8c8 22 = .ok (.aload_n 1, 1) := by decide +kernel
theorem dJ5_inflate_da8c8_23 : decode cJ5_inflate_da8c8 23 = .ok (.iconst 0, 1) := by decide +kernel
theorem dJ5_inflate_da8c8_24 : decode cJ5_inflate_da8c8 24 = .ok (.aload_n 0, 1) := by decide +kernel
theorem dJ5_inflate_da8c8_25 : decode cJ5_inflate_da8c8 25 = .ok (.getfield 79, 3) := by decide +kernel
theorem dJ5_inflate_da8c8_28 : decode cJ5_inflate_da8c8 28 = .ok (.invokestatic 125, 3) := by decide +kernel
theorem dJ5_inflate_da8c8_31 : decode cJ5_inflate_da8c8 31 = .ok (.aload_n 0, 1) := by decide +kernel
theorem dJ5_inflate_da8c8_32 : decode cJ5_inflate_da8c8 32 = .ok (.aload_n 1, 1) := by decide +kernel
theorem dJ5_inflate_da8c8_33 : decode cJ5_inflate_da8c8 33 = .ok (.putfield 15, 3) := by decide +kernel
theorem dJ5_inflate_da8c8_36 : decode cJ5_inflate_da8c8 36 = .ok (.aload_n 0, 1) := by decide +kernel
theorem dJ5_inflate_da8c8_37 : decode cJ5_inflate_da8c8 37 = .ok (.iconst 1, 1) := by decide +kernel
theorem dJ5_inflate_da8c8_38 : decode cJ5_inflate_da8c8 38 = .ok (.putfield 22, 3) := by decide +kernel
theorem dJ5_inflate_da8c8_41 : decode cJ5_inflate_da8c8 41 = .ok (.return_, 1) := by decide +kernel
set_option maxRecDepth 20000 in
theorem ggJ5_setLength_d00df_J5_ensureCapacityInternal_d00df : GoodIn wsJ5_setLength_d00df wsJ5_ensureCapacityInternal_d00df := goodIn_r _ [12, 5, 13, 14, 15, 16, 17, 11, 18, 19, 20, 21, 22, 23, 24, 25, 26, 27, 28, 29, 30, 31, 32, 33, 34, 35, 36, 37, 38, 39, 40, 41, 42, 43, 44, 45, 46, 47, 48, 49, 83, 84, 85, 86] (by decide +kernel) (by decide +kernel)
set_option maxRecDepth 20000 in
theorem gJ5_setLength_d00df_J5_ensureCapacityInternal_d00df_u100J4 : GoodIn wsJ5_setLength_d00df (va_wsU RJ5 100 RJ4 "java/lang/AbstractStringBuilder" ⟨"java/lang/AbstractStringBuilder", "ensureCapacityInternal", "(I)V"⟩ yJ5_ensureCapacityInternal_d00df wsJ5_ensureCapacityInternal_d00df) := goodIn_app (goodIn_of _ (by decide +kernel)) ggJ5_setLength_d00df_J5_ensureCapacityInternal_d00df
set_option maxRecDepth 20000 in
theorem ggJ5_setLength_d00df_J5_isLatin1_aae02 : GoodIn wsJ5_setLength_d00df wsJ5_isLatin1_aae02 := goodIn_r _ [54, 55, 13, 83, 84, 85, 86] (by decide +kernel) (by decide +kernel)
set_option maxRecDepth 20000 in
theorem gJ5_setLength_d00df_J5_isLatin1_aae02_u83J4 : GoodIn wsJ5_setLength_d00df (va_wsU RJ5 83 RJ4 "java/lang/AbstractStringBuilder" ⟨"java/lang/AbstractStringBuilder", "isLatin1", "()Z"⟩ yJ5_isLatin1_aae02 wsJ5_isLatin1_aae02) := goodIn_app (goodIn_of _ (by decide +kernel)) ggJ5_setLength_d00df_J5_isLatin1_aae02
set_option maxRecDepth 20000 in
theorem ggJ5_setLength_d00df_J1_fillNull_b72d1 : GoodIn wsJ5_setLength_d00df wsJ1_fillNull_b72d1 := goodIn_r _ [59, 60, 61, 34, 62, 63, 64, 65, 66, 67, 68, 69, 70, 71, 83, 84, 85, 86, 87, 88, 89, 90, 91, 92] (by decide +kernel) (by decide +kernel)
set_option maxRecDepth 20000 in
theorem gJ5_setLength_d00df_J1_fillNull_b72d1 : GoodIn wsJ5_setLength_d00df (va_wsS RJ5 133 yJ1_fillNull_b72d1 wsJ1_fillNull_b72d1) := goodIn_app (goodIn_of _ (by decide +kernel)) ggJ5_setLength_d00df_J1_fillNull_b72d1
set_option maxRecDepth 20000 in
theorem ggJ5_setLength_d00df_J2_fillNull_b72d1 : GoodIn wsJ5_setLength_d00df wsJ2_fillNull_b72d1 := goodIn_r _ [75, 76, 61, 34, 62, 63, 64, 65, 66, 67, 68, 69, 70, 71, 83, 84, 85, 86, 87, 88, 89, 90, 91, 92] (by decide +kernel) (by decide +kernel)
set_option maxRecDepth 20000 in
theorem gJ5_setLength_d00df_J2_fillNull_b72d1 : GoodIn wsJ5_setLength_d00df (va_wsS RJ5 137 yJ2_fillNull_b72d1 wsJ2_fillNull_b72d1) := goodIn_app (goodIn_of _ (by decide +kernel)) ggJ5_setLength_d00df_J2_fillNull_b72d1
theorem dJ5_setLength_d00df_0 : decode cJ5_setLength_d00df 0 = .ok (.iload_n 1, 1) := by decide +kernel
theorem dJ5_setLength_d00df_1 : decode cJ5_setLength_d00df 1 = .ok (.ifCond .ge 12, 3) := by decide +kernel
theorem dJ5_setLength_d00df_4 : decode cJ5_setLength_d00df 4 = .ok (.new 129, 3) := by decide +kernel
theorem dJ5_setLength_d00df_7 : decode cJ5_setLength_d00df 7 = .ok (.dup, 1) := by decide +kernel
theorem dJ5_setLength_d00df_8 : decode cJ5_setLength_d00df 8 = .ok (.iload_n 1, 1) := by decide +kernel
theorem dJ5_setLength_d00df_9 : decode cJ5_setLength_d00df 9 = .ok (.invokespecial 131, 3) := by decide +kernel
theorem dJ5_setLength_d00df_12 : decode cJ5_setLength_d00df 12 = .ok (.athrow, 1) := by decide +kernel
theorem dJ5_setLength_d00df_13 : decode cJ5_setLength_d00df 13 = .ok (.aload_n 0, 1) := by decide +kernel
theorem dJ5_setLength_d00df_14 : decode cJ5_setLength_d00df 14 = .ok (.iload_n 1, 1) := by decide +kernel
theorem dJ5_setLength_d00df_15 : decode cJ5_setLength_d00df 15 = .ok (.invokevirtual 100, 3) := by decide +kernel
theorem dJ5_setLength_d00df_18 : decode cJ5_setLength_d00df 18 = .ok (.aload_n 0, 1) := by decide +kernel
theorem dJ5_setLength_d00df_19 : decode cJ5_setLength_d00df 19 = .ok (.getfield 79, 3) := by decide +kernel
theorem dJ5_setLength_d00df_22 : decode cJ5_setLength_d00df 22 = .ok (.iload_n 1, 1) := by decide +kernel
theorem dJ5_setLength_d00df_23 : decode cJ5_setLength_d00df 23 = .ok (.if_icmp .ge 40, 3) := by decide +kernel
theorem dJ5_setLength_d00df_26 : decode cJ5_setLength_d00df 26 = .ok (.aload_n 0, 1) := by decide +kernel
theorem dJ5_setLength_d00df_27 : decode cJ5_setLength_d00df 27 = .ok (.invokevirtual 83, 3) := by decide +kernel
theorem dJ5_setLength_d00df_30 : decode cJ5_setLength_d00df 30 = .ok (.ifCond .eq 18, 3) := by decide +kernel
theorem dJ5_setLength_d00df_33 : decode cJ5_setLength_d00df 33 = .ok (.aload_n 0, 1) := by decide +kernel
theorem dJ5_setLength_d00df_34 : decode cJ5_setLength_d00df 34 = .ok (.getfield 15, 3) := by decide +kernel
theorem dJ5_setLength_d00df_37 : decode cJ5_setLength_d00df 37 = .ok (.aload_n 0, 1) := by decide +kernel
theorem dJ5_setLength_d00df_38 : decode cJ5_setLength_d00df 38 = .ok (.getfield 79, 3) := by decide +kernel
theorem dJ5_setLength_d00df_41 : decode cJ5_setLength_d00df 41 = .ok (.iload_n 1, 1) := by decide +kernel
theorem dJ5_setLength_d00df_42 : decode cJ5_setLength_d00df 42 = .ok (.invokestatic 133, 3) := by decide +kernel
theorem dJ5_setLength_d00df_45 : decode cJ5_setLength_d00df 45 = .ok (.goto 31, 3) := by decide +kernel
theorem dJ5_setLength_d00df_48 : decode cJ5_setLength_d00df 48 = .ok (.aload_n 0, 1) := by decide +kernel
theorem dJ5_setLength_d00df_49 : decode cJ5_setLength_d00df 49 = .ok (.getfield 15, 3) := by decide +kernel
theorem dJ5_setLength_d00df_52 : decode cJ5_setLength_d00df 52 = .ok (.aload_n 0, 1) := by decide +kernel
theorem dJ5_setLength_d00df_53 : decode cJ5_setLength_d00df 53 = .ok (.getfield 79, 3) := by decide +kernel
theorem dJ5_setLength_d00df_56 : decode cJ5_setLength_d00df 56 = .ok (.iload_n 1, 1) := by decide +kernel
theorem dJ5_setLength_d00df_57 : decode cJ5_setLength_d00df 57 = .ok (.invokestatic 137, 3) := by decide +kernel
theorem dJ5_setLength_d00df_60 : decode cJ5_setLength_d00df 60 = .ok (.goto 16, 3) := by decide +kernel
theorem dJ5_setLength_d00df_63 : decode cJ5_setLength_d00df 63 = .ok (.aload_n 0, 1) := by decide +kernel
theorem dJ5_setLength_d00df_64 : decode cJ5_setLength_d00df 64 = .ok (.getfield 79, 3) := by decide +kernel
theorem dJ5_setLength_d00df_67 : decode cJ5_setLength_d00df 67 = .ok (.iload_n 1, 1) := by decide +kernel
theorem dJ5_setLength_d00df_68 : decode cJ5_setLength_d00df 68 = .ok (.if_icmp .le 8, 3) := by decide +kernel
theorem dJ5_setLength_d00df_71 : decode cJ5_setLength_d00df 71 = .ok (.aload_n 0, 1) := by decide +kernel
theorem dJ5_setLength_d00df_72 : decode cJ5_setLength_d00df 72 = .ok (.iconst 1, 1) := by decide +kernel
theorem dJ5_setLength_d00df_73 : decode cJ5_setLength_d00df 73 = .ok (.putfield 73, 3) := by decide +kernel
theorem dJ5_setLength_d00df_76 : decode cJ5_setLength_d00df 76 = .ok (.aload_n 0, 1) := by decide +kernel
theorem dJ5_setLength_d00df_77 : decode cJ5_setLength_d00df 77 = .ok (.iload_n 1, 1) := by decide +kernel
theorem dJ5_setLength_d00df_78 : decode cJ5_setLength_d00df 78 = .ok (.putfield 79, 3) := by decide +kernel
theorem dJ5_setLength_d00df_81 : decode cJ5_setLength_d00df 81 = .ok (.return_, 1) := by decide +kernel
set_option maxRecDepth 20000 in
theorem ggJ5_charAt_5068e_J0_checkIndex_df160 : GoodIn wsJ5_charAt_5068e wsJ0_checkIndex_df160 := goodIn_r _ [11, 12, 13, 14, 15, 16] (by decide +kernel) (by decide +kernel)
set_option maxRecDepth 20000 in
theorem gJ5_charAt_5068e_J0_checkIndex_df160 : GoodIn wsJ5_charAt_5068e (va_wsS RJ5 144 yJ0_checkIndex_df160 wsJ0_checkIndex_df160) := goodIn_app (goodIn_of _ (by decide +kernel)) ggJ5_charAt_5068e_J0_checkIndex_df160
set_option maxRecDepth 20000 in
theorem ggJ5_charAt_5068e_J2_getChar_3b067 : GoodIn wsJ5_charAt_5068e wsJ2_getChar_3b067 := goodIn_r _ [20, 21, 22, 23, 24, 25, 19, 26] (by decide +kernel) (by decide +kernel)
set_option maxRecDepth 20000 in
theorem gJ5_charAt_5068e_J2_getChar_3b067 : GoodIn wsJ5_charAt_5068e (va_wsS RJ5 148 yJ2_getChar_3b067 wsJ2_getChar_3b067) := goodIn_app (goodIn_of _ (by decide +kernel)) ggJ5_charAt_5068e_J2_getChar_3b067
theorem dJ5_charAt_5068e_0 : decode cJ5_charAt_5068e 0 = .ok (.aload_n 0, 1) := by decide +kernel
theorem dJ5_charAt_5068e_1 : decode cJ5_charAt_5068e 1 = .ok (.getfield 22, 3) := by decide +kernel
theorem dJ5_charAt_5068e_4 : decode cJ5_charAt_5068e 4 = .ok (.istore_n 2, 1) := by decide +kernel
theorem dJ5_charAt_5068e_5 : decode cJ5_charAt_5068e 5 = .ok (.aload_n 0, 1) := by decide +kernel
theorem dJ5_charAt_5068e_6 : decode cJ5_charAt_5068e 6 = .ok (.getfield 15, 3) := by decide +kernel
theorem dJ5_charAt_5068e_9 : decode cJ5_charAt_5068e 9 = .ok (.astore_n 3, 1) := by decide +kernel
theorem dJ5_charAt_5068e_10 : decode cJ5_charAt_5068e 10 = .ok (.aload_n 0, 1) := by decide +kernel
theorem dJ5_charAt_5068e_11 : decode cJ5_charAt_5068e 11 = .ok (.getfield 79, 3) := by decide +kernel
theorem dJ5_charAt_5068e_14 : decode cJ5_charAt_5068e 14 = .ok (.aload_n 3, 1) := by decide +kernel
theorem dJ5_charAt_5068e_15 : decode cJ5_charAt_5068e 15 = .ok (.arraylength, 1) := by decide +kernel
theorem dJ5_charAt_5068e_16 : decode cJ5_charAt_5068e 16 = .ok (.iload_n 2, 1) := by decide +kernel
theorem dJ5_charAt_5068e_17 : decode cJ5_charAt_5068e 17 = .ok (.ishr, 1) := by decide +kernel
theorem dJ5_charAt_5068e_18 : decode cJ5_charAt_5068e 18 = .ok (.invokestatic 138, 3) := by decide +kernel
theorem dJ5_charAt_5068e_21 : decode cJ5_charAt_5068e 21 = .ok (.istore 4, 2) := by decide +kernel
theorem dJ5_charAt_5068e_23 : decode cJ5_charAt_5068e 23 = .ok (.iload_n 1, 1) := by decide +kernel
theorem dJ5_charAt_5068e_24 : decode cJ5_charAt_5068e 24 = .ok (.iload 4, 2) := by decide +kernel
theorem dJ5_charAt_5068e_26 : decode cJ5_charAt_5068e 26 = .ok (.invokestatic 144, 3) := by decide +kernel
theorem dJ5_charAt_5068e_29 : decode cJ5_charAt_5068e 29 = .ok (.iload_n 2, 1) := by decide +kernel
theorem dJ5_charAt_5068e_30 : decode cJ5_charAt_5068e 30 = .ok (.ifCond .ne 12, 3) := by decide +kernel
theorem dJ5_charAt_5068e_33 : decode cJ5_charAt_5068e 33 = .ok (.aload_n 3, 1) := by decide +kernel
theorem dJ5_charAt_5068e_34 : decode cJ5_charAt_5068e 34 = .ok (.iload_n 1, 1) := by decide +kernel
theorem dJ5_charAt_5068e_35 : decode cJ5_charAt_5068e 35 = .ok (.baload, 1) := by decide +kernel
theorem dJ5_charAt_5068e_36 : decode cJ5_charAt_5068e 36 = .ok (.sipush 255, 3) := by decide +kernel
theorem dJ5_charAt_5068e_39 : decode cJ5_charAt_5068e 39 = .ok (.iand, 1) := by decide +kernel
theorem dJ5_charAt_5068e_40 : decode cJ5_charAt_5068e 40 = .ok (.i2c, 1) := by decide +kernel
theorem dJ5_charAt_5068e_41 : decode cJ5_charAt_5068e 41 = .ok (.ireturn, 1) := by decide +kernel
theorem dJ5_charAt_5068e_42 : decode cJ5_charAt_5068e 42 = .ok (.aload_n 3, 1) := by decide +kernel
theorem dJ5_charAt_5068e_43 : decode cJ5_charAt_5068e 43 = .ok (.iload_n 1, 1) := by decide +kernel
theorem dJ5_charAt_5068e_44 : decode cJ5_charAt_5068e 44 = .ok (.invokestatic 148, 3) := by decide +kernel
theorem dJ5_charAt_5068e_47 : decode cJ5_charAt_5068e 47 = .ok (.ireturn, 1) := by decide +kernel
set_option maxRecDepth 20000 in
theorem ggJ5_append_cf1ce_J5_appendNull_278bc : GoodIn wsJ5_append_cf1ce wsJ5_appendNull_278bc := goodIn_r _ [7, 1, 8, 9, 10, 11, 12, 6, 13, 14, 15, 16, 17, 18, 19, 20, 21, 22, 23, 24, 25, 26, 27, 28, 29, 30, 31, 32, 33, 34, 35, 36, 37, 38, 39, 40, 41, 42, 43, 44, 45, 46, 47, 48, 49, 50, 51, 52, 53, 54, 55, 56, 57, 58, 59, 60, 61, 62, 63, 64, 65, 66, 67, 68, 69, 70, 71, 72, 73, 74, 75, 76, 77, 78, 79, 80, 81, 138, 139, 140, 141] (by decide +kernel) (by decide +kernel)
set_option maxRecDepth 20000 in
theorem gJ5_append_cf1ce_J5_appendNull_278bc_u204J4 : GoodIn wsJ5_append_cf1ce (va_wsU RJ5 204 RJ4 "java/lang/AbstractStringBuilder" ⟨"java/lang/AbstractStringBuilder", "appendNull", "()Ljava/lang/AbstractStringBuilder;"⟩ yJ5_appendNull_278bc wsJ5_appendNull_278bc) := goodIn_app (goodIn_of _ (by decide +kernel)) ggJ5_append_cf1ce_J5_appendNull_278bc
set_option maxRecDepth 20000 in
theorem ggJ5_append_cf1ce_J0_length_8abf5 : GoodIn wsJ5_append_cf1ce wsJ0_length_8abf5 := goodIn_r _ [85, 86, 87, 88, 89, 70, 90, 91, 92, 142, 143, 144, 145] (by decide +kernel) (by decide +kernel)
set_option maxRecDepth 20000 in
theorem gJ5_append_cf1ce_J0_length_8abf5 : GoodIn wsJ5_append_cf1ce (wsV RJ5 32 RJ0 yJ0_length_8abf5 wsJ0_length_8abf5) := goodIn_app (goodIn_of _ (by decide +kernel)) ggJ5_append_cf1ce_J0_length_8abf5
set_option maxRecDepth 20000 in
theorem ggJ5_append_cf1ce_J5_ensureCapacityInternal_d00df : GoodIn wsJ5_append_cf1ce wsJ5_ensureCapacityInternal_d00df := goodIn_r _ [13, 8, 14, 15, 16, 17, 18, 6, 19, 20, 21, 22, 23, 24, 25, 26, 27, 28, 29, 30, 31, 32, 33, 34, 35, 36, 37, 38, 39, 40, 41, 42, 43, 44, 45, 46, 47, 48, 49, 50, 138, 139, 140, 141] (by decide +kernel) (by decide +kernel)
set_option maxRecDepth 20000 in
theorem gJ5_append_cf1ce_J5_ensureCapacityInternal_d00df_u100J4 : GoodIn wsJ5_append_cf1ce (va_wsU RJ5 100 RJ4 "java/lang/AbstractStringBuilder" ⟨"java/lang/AbstractStringBuilder", "ensureCapacityInternal", "(I)V"⟩ yJ5_ensureCapacityInternal_d00df wsJ5_ensureCapacityInternal_d00df) := goodIn_app (goodIn_of _ (by decide +kernel)) ggJ5_append_cf1ce_J5_ensureCapacityInternal_d00df
set_option maxRecDepth 20000 in
theorem ggJ5_append_cf1ce_J5_putStringAt_47b60 : GoodIn wsJ5_append_cf1ce wsJ5_putStringAt_47b60 := goodIn_r _ [97, 8, 14, 98, 99, 100, 101, 6, 102, 56, 103, 88, 89, 70, 90, 91, 92, 104, 105, 106, 107, 108, 1, 51, 52, 53, 54, 55, 109, 110, 59, 111, 43, 112, 113, 114, 115, 116, 117, 118, 119, 120, 121, 122, 123, 124, 125, 65, 66, 67, 126, 127, 128, 72, 129, 130, 75, 131, 77, 78, 79, 61, 80, 81, 132, 133, 134, 135, 86, 136, 48, 49, 50, 87, 137, 138, 139, 140, 141, 142, 143, 144, 145] (by decide +kernel) (by decide +kernel)
set_option maxRecDepth 20000 in
theorem gJ5_append_cf1ce_J5_putStringAt_47b60_u208J4 : GoodIn wsJ5_append_cf1ce (va_wsU RJ5 208 RJ4 "java/lang/AbstractStringBuilder" ⟨"java/lang/AbstractStringBuilder", "putStringAt", "(ILjava/lang/String;)V"⟩ yJ5_putStringAt_47b60 wsJ5_putStringAt_47b60) := goodIn_app (goodIn_of _ (by decide +kernel)) ggJ5_append_cf1ce_J5_putStringAt_47b60
theorem dJ5_append_cf1ce_0 : decode cJ5_append_cf1ce 0 = .ok (.aload_n 1, 1) := by decide +kernel
theorem dJ5_append_cf1ce_1 : decode cJ5_append_cf1ce 1 = .ok (.ifnonnull 8, 3) := by decide +kernel
theorem dJ5_append_cf1ce_4 : decode cJ5_append_cf1ce 4 = .ok (.aload_n 0, 1) := by decide +kernel
theorem dJ5_append_cf1ce_5 : decode cJ5_append_cf1ce 5 = .ok (.invokevirtual 204, 3) := by decide +kernel
theorem dJ5_append_cf1ce_8 : decode cJ5_append_cf1ce 8 = .ok (.areturn, 1) := by decide +kernel
theorem dJ5_append_cf1ce_9 : decode cJ5_append_cf1ce 9 = .ok (.aload_n 1, 1) := by decide +kernel
theorem dJ5_append_cf1ce_10 : decode cJ5_append_cf1ce 10 = .ok (.invokevirtual 32, 3) := by decide +kernel
theorem dJ5_append_cf1ce_13 : decode cJ5_append_cf1ce 13 = .ok (.istore_n 2, 1) := by decide +kernel
theorem dJ5_append_cf1ce_14 : decode cJ5_append_cf1ce 14 = .ok (.aload_n 0, 1) := by decide +kernel
theorem dJ5_append_cf1ce_15 : decode cJ5_append_cf1ce 15 = .ok (.aload_n 0, 1) := by decide +kernel
theorem dJ5_append_cf1ce_16 : decode cJ5_append_cf1ce 16 = .ok (.getfield 79, 3) := by decide +kernel
theorem dJ5_append_cf1ce_19 : decode cJ5_append_cf1ce 19 = .ok (.iload_n 2, 1) := by decide +kernel
theorem dJ5_append_cf1ce_20 : decode cJ5_append_cf1ce 20 = .ok (.iadd, 1) := by decide +kernel
theorem dJ5_append_cf1ce_21 : decode cJ5_append_cf1ce 21 = .ok (.invokevirtual 100, 3) := by decide +kernel
theorem dJ5_append_cf1ce_24 : decode cJ5_append_cf1ce 24 = .ok (.aload_n 0, 1) := by decide +kernel
theorem dJ5_append_cf1ce_25 : decode cJ5_append_cf1ce 25 = .ok (.aload_n 0, 1) := by decide +kernel
theorem dJ5_append_cf1ce_26 : decode cJ5_append_cf1ce 26 = .ok (.getfield 79, 3) := by decide +kernel
theorem dJ5_append_cf1ce_29 : decode cJ5_append_cf1ce 29 = .ok (.aload_n 1, 1) := by decide +kernel
theorem dJ5_append_cf1ce_30 : decode cJ5_append_cf1ce 30 = .ok (.invokevirtual 208, 3) := by decide +kernel
theorem dJ5_append_cf1ce_33 : decode cJ5_append_cf1ce 33 = .ok (.aload_n 0, 1) := by decide +kernel
theorem dJ5_append_cf1ce_34 : decode cJ5_append_cf1ce 34 = .ok (.dup, 1) := by decide +kernel
theorem dJ5_append_cf1ce_35 : decode cJ5_append_cf1ce 35 = .ok (.getfield 79, 3) := by decide +kernel
theorem dJ5_append_cf1ce_38 : decode cJ5_append_cf1ce 38 = .ok (.iload_n 2, 1) := by decide +kernel
theorem dJ5_append_cf1ce_39 : decode cJ5_append_cf1ce 39 = .ok (.iadd, 1) := by decide +kernel
theorem dJ5_append_cf1ce_40 : decode cJ5_append_cf1ce 40 = .ok (.putfield 79, 3) := by decide +kernel
theorem dJ5_append_cf1ce_43 : decode cJ5_append_cf1ce 43 = .ok (.aload_n 0, 1) := by decide +kernel
theorem dJ5_append_cf1ce_44 : decode cJ5_append_cf1ce 44 = .ok (.areturn, 1) := by decide +kernel
set_option maxRecDepth 20000 in
theorem ggJ5_appendNull_278bc_J5_ensureCapacityInternal_d00df : GoodIn wsJ5_appendNull_278bc wsJ5_ensureCapacityInternal_d00df := goodIn_r _ [8, 2, 9, 10, 11, 12, 13, 7, 14, 15, 16, 17, 18, 19, 20, 21, 22, 23, 24, 25, 26, 27, 28, 29, 30, 31, 32, 33, 34, 35, 36, 37, 38, 39, 40, 41, 42, 43, 44, 45, 77, 78, 79, 80] (by decide +kernel) (by decide +kernel)
set_option maxRecDepth 20000 in
theorem gJ5_appendNull_278bc_J5_ensureCapacityInternal_d00df_u100J4 : GoodIn wsJ5_appendNull_278bc (va_wsU RJ5 100 RJ4 "java/lang/AbstractStringBuilder" ⟨"java/lang/AbstractStringBuilder", "ensureCapacityInternal", "(I)V"⟩ yJ5_ensureCapacityInternal_d00df wsJ5_ensureCapacityInternal_d00df) := goodIn_app (goodIn_of _ (by decide +kernel)) ggJ5_appendNull_278bc_J5_ensureCapacityInternal_d00df
set_option maxRecDepth 20000 in
theorem ggJ5_appendNull_278bc_J5_isLatin1_aae02 : GoodIn wsJ5_appendNull_278bc wsJ5_isLatin1_aae02 := goodIn_r _ [50, 51, 9, 77, 78, 79, 80] (by decide +kernel) (by decide +kernel)
set_option maxRecDepth 20000 in
theorem gJ5_appendNull_278bc_J5_isLatin1_aae02_u83J4 : GoodIn wsJ5_appendNull_278bc (va_wsU RJ5 83 RJ4 "java/lang/AbstractStringBuilder" ⟨"java/lang/AbstractStringBuilder", "isLatin1", "()Z"⟩ yJ5_isLatin1_aae02 wsJ5_isLatin1_aae02) := goodIn_app (goodIn_of _ (by decide +kernel)) ggJ5_appendNull_278bc_J5_isLatin1_aae02
set_option maxRecDepth 20000 in
theorem ggJ5_appendNull_278bc_J2_putCharsAt_cd4e5 : GoodIn wsJ5_appendNull_278bc wsJ2_putCharsAt_cd4e5 := goodIn_r _ [55, 56, 57, 58, 54, 59, 60, 61, 62, 63, 64, 65, 66, 67, 68, 69, 70, 71, 72, 73, 74, 75, 76] (by decide +kernel) (by decide +kernel)
set_option maxRecDepth 20000 in
theorem gJ5_appendNull_278bc_J2_putCharsAt_cd4e5 : GoodIn wsJ5_appendNull_278bc (va_wsS RJ5 226 yJ2_putCharsAt_cd4e5 wsJ2_putCharsAt_cd4e5) := goodIn_app (goodIn_of _ (by decide +kernel)) ggJ5_appendNull_278bc_J2_putCharsAt_cd4e5
theorem dJ5_appendNull_278bc_0 : decode cJ5_appendNull_278bc 0 = .ok (.aload_n 0, 1) := by decide +kernel
theorem dJ5_appendNull_278bc_1 : decode cJ5_appendNull_278bc 1 = .ok (.aload_n 0, 1) := by decide +kernel
theorem dJ5_appendNull_278bc_2 : decode cJ5_appendNull_278bc 2 = .ok (.getfield 79, 3) := by decide +kernel
theorem dJ5_appendNull_278bc_5 : decode cJ5_appendNull_278bc 5 = .ok (.iconst 4, 1) := by decide +kernel
theorem dJ5_appendNull_278bc_6 : decode cJ5_appendNull_278bc 6 = .ok (.iadd, 1) := by decide +kernel
theorem dJ5_appendNull_278bc_7 : decode cJ5_appendNull_278bc 7 = .ok (.invokevirtual 100, 3) := by decide +kernel
theorem dJ5_appendNull_278bc_10 : decode cJ5_appendNull_278bc 10 = .ok (.aload_n 0, 1) := by decide +kernel
theorem dJ5_appendNull_278bc_11 : decode cJ5_appendNull_278bc 11 = .ok (.getfield 79, 3) := by decide +kernel
theorem dJ5_appendNull_278bc_14 : decode cJ5_appendNull_278bc 14 = .ok (.istore_n 1, 1) := by decide +kernel
theorem dJ5_appendNull_278bc_15 : decode cJ5_appendNull_278bc 15 = .ok (.aload_n 0, 1) := by decide +kernel
theorem dJ5_appendNull_278bc_16 : decode cJ5_appendNull_278bc 16 = .ok (.getfield 15, 3) := by decide +kernel
theorem dJ5_appendNull_278bc_19 : decode cJ5_appendNull_278bc 19 = .ok (.astore_n 2, 1) := by decide +kernel
theorem dJ5_appendNull_278bc_20 : decode cJ5_appendNull_278bc 20 = .ok (.aload_n 0, 1) := by decide +kernel
theorem dJ5_appendNull_278bc_21 : decode cJ5_appendNull_278bc 21 = .ok (.invokevirtual 83, 3) := by decide +kernel
theorem dJ5_appendNull_278bc_24 : decode cJ5_appendNull_278bc 24 = .ok (.ifCond .eq 38, 3) := by decide +kernel
theorem dJ5_appendNull_278bc_27 : decode cJ5_appendNull_278bc 27 = .ok (.aload_n 2, 1) := by decide +kernel
theorem dJ5_appendNull_278bc_28 : decode cJ5_appendNull_278bc 28 = .ok (.iload_n 1, 1) := by decide +kernel
theorem dJ5_appendNull_278bc_29 : decode cJ5_appendNull_278bc 29 = .ok (.iinc 1 1, 3) := by decide +kernel
theorem dJ5_appendNull_278bc_32 : decode cJ5_appendNull_278bc 32 = .ok (.bipush 110, 2) := by decide +kernel
theorem dJ5_appendNull_278bc_34 : decode cJ5_appendNull_278bc 34 = .ok (.bastore, 1) := by decide +kernel
theorem dJ5_appendNull_278bc_35 : decode cJ5_appendNull_278bc 35 = .ok (.aload_n 2, 1) := by decide +kernel
theorem dJ5_appendNull_278bc_36 : decode cJ5_appendNull_278bc 36 = .ok (.iload_n 1, 1) := by decide +kernel
theorem dJ5_appendNull_278bc_37 : decode cJ5_appendNull_278bc 37 = .ok (.iinc 1 1, 3) := by decide +kernel
theorem dJ5_appendNull_278bc_40 : decode cJ5_appendNull_278bc 40 = .ok (.bipush 117, 2) := by decide +kernel
theorem dJ5_appendNull_278bc_42 : decode cJ5_appendNull_278bc 42 = .ok (.bastore, 1) := by decide +kernel
theorem dJ5_appendNull_278bc_43 : decode cJ5_appendNull_278bc 43 = .ok (.aload_n 2, 1) := by decide +kernel
theorem dJ5_appendNull_278bc_44 : decode cJ5_appendNull_278bc 44 = .ok (.iload_n 1, 1) := by decide +kernel
theorem dJ5_appendNull_278bc_45 : decode cJ5_appendNull_278bc 45 = .ok (.iinc 1 1, 3) := by decide +kernel
theorem dJ5_appendNull_278bc_48 : decode cJ5_appendNull_278bc 48 = .ok (.bipush 108, 2) := by decide +kernel
theorem dJ5_appendNull_278bc_50 : decode cJ5_appendNull_278bc 50 = .ok (.bastore, 1) := by decide +kernel
theorem dJ5_appendNull_278bc_51 : decode cJ5_appendNull_278bc 51 = .ok (.aload_n 2, 1) := by decide +kernel
theorem dJ5_appendNull_278bc_52 : decode cJ5_appendNull_278bc 52 = .ok (.iload_n 1, 1) := by decide +kernel
theorem dJ5_appendNull_278bc_53 : decode cJ5_appendNull_278bc 53 = .ok (.iinc 1 1, 3) := by decide +kernel
theorem dJ5_appendNull_278bc_56 : decode cJ5_appendNull_278bc 56 = .ok (.bipush 108, 2) := by decide +kernel
theorem dJ5_appendNull_278bc_58 : decode cJ5_appendNull_278bc 58 = .ok (.bastore, 1) := by decide +kernel
theorem dJ5_appendNull_278bc_59 : decode cJ5_appendNull_278bc 59 = .ok (.goto 17, 3) := by decide +kernel
theorem dJ5_appendNull_278bc_62 : decode cJ5_appendNull_278bc 62 = .ok (.aload_n 2, 1) := by decide +kernel
theorem dJ5_appendNull_278bc_63 : decode cJ5_appendNull_278bc 63 = .ok (.iload_n 1, 1) := by decide +kernel
theorem dJ5_appendNull_278bc_64 : decode cJ5_appendNull_278bc 64 = .ok (.bipush 110, 2) := by decide +kernel
theorem dJ5_appendNull_278bc_66 : decode cJ5_appendNull_278bc 66 = .ok (.bipush 117, 2) := by decide +kernel
theorem dJ5_appendNull_278bc_68 : decode cJ5_appendNull_278bc 68 = .ok (.bipush 108, 2) := by decide +kernel
theorem dJ5_appendNull_278bc_70 : decode cJ5_appendNull_278bc 70 = .ok (.bipush 108, 2) := by decide +kernel
theorem dJ5_appendNull_278bc_72 : decode cJ5_appendNull_278bc 72 = .ok (.invokestatic 226, 3) := by decide +kernel
theorem dJ5_appendNull_278bc_75 : decode cJ5_appendNull_278bc 75 = .ok (.istore_n 1, 1) := by decide +kernel
theorem dJ5_appendNull_278bc_76 : decode cJ5_appendNull_278bc 76 = .ok (.aload_n 0, 1) := by decide +kernel
theorem dJ5_appendNull_278bc_77 : decode cJ5_appendNull_278bc 77 = .ok (.iload_n 1, 1) := by decide +kernel
theorem dJ5_appendNull_278bc_78 : decode cJ5_appendNull_278bc 78 = .ok (.putfield 79, 3) := by decide +kernel
theorem dJ5_appendNull_278bc_81 : decode cJ5_appendNull_278bc 81 = .ok (.aload_n 0, 1) := by decide +kernel
theorem dJ5_appendNull_278bc_82 : decode cJ5_appendNull_278bc 82 = .ok (.areturn, 1) := by decide +kernel
set_option maxRecDepth 20000 in
theorem ggJ5_append_3fe6f_J5_ensureCapacityInternal_d00df : GoodIn wsJ5_append_3fe6f wsJ5_ensureCapacityInternal_d00df := goodIn_r _ [8, 2, 9, 10, 11, 12, 13, 7, 14, 15, 16, 17, 18, 19, 20, 21, 22, 23, 24, 25, 26, 27, 28, 29, 30, 31, 32, 33, 34, 35, 36, 37, 38, 39, 40, 41, 42, 43, 44, 45, 108, 109, 110, 111] (by decide +kernel) (by decide +kernel)
set_option maxRecDepth 20000 in
theorem gJ5_append_3fe6f_J5_ensureCapacityInternal_d00df_u100J4 : GoodIn wsJ5_append_3fe6f (va_wsU RJ5 100 RJ4 "java/lang/AbstractStringBuilder" ⟨"java/lang/AbstractStringBuilder", "ensureCapacityInternal", "(I)V"⟩ yJ5_ensureCapacityInternal_d00df wsJ5_ensureCapacityInternal_d00df) := goodIn_app (goodIn_of _ (by decide +kernel)) ggJ5_append_3fe6f_J5_ensureCapacityInternal_d00df
set_option maxRecDepth 20000 in
theorem ggJ5_append_3fe6f_J5_isLatin1_aae02 : GoodIn wsJ5_append_3fe6f wsJ5_isLatin1_aae02 := goodIn_r _ [50, 51, 9, 108, 109, 110, 111] (by decide +kernel) (by decide +kernel)
set_option maxRecDepth 20000 in
theorem gJ5_append_3fe6f_J5_isLatin1_aae02_u83J4 : GoodIn wsJ5_append_3fe6f (va_wsU RJ5 83 RJ4 "java/lang/AbstractStringBuilder" ⟨"java/lang/AbstractStringBuilder", "isLatin1", "()Z"⟩ yJ5_isLatin1_aae02 wsJ5_isLatin1_aae02) := goodIn_app (goodIn_of _ (by decide +kernel)) ggJ5_append_3fe6f_J5_isLatin1_aae02
set_option maxRecDepth 20000 in
theorem ggJ5_append_3fe6f_J1_canEncode_fc78d : GoodIn wsJ5_append_3fe6f wsJ1_canEncode_fc78d := goodIn_r _ [55] (by decide +kernel) (by decide +kernel)
set_option maxRecDepth 20000 in
theorem gJ5_append_3fe6f_J1_canEncode_fc78d : GoodIn wsJ5_append_3fe6f (va_wsS RJ5 191 yJ1_canEncode_fc78d wsJ1_canEncode_fc78d) := goodIn_app (goodIn_of _ (by decide +kernel)) ggJ5_append_3fe6f_J1_canEncode_fc78d
set_option maxRecDepth 20000 in
theorem ggJ5_append_3fe6f_J5_inflate_da8c8 : GoodIn wsJ5_append_3fe6f wsJ5_inflate_da8c8 := goodIn_r _ [60, 2, 1, 9, 46, 47, 48, 49, 7, 50, 51, 61, 62, 63, 64, 38, 65, 66, 67, 68, 69, 70, 54, 71, 72, 73, 74, 75, 76, 77, 78, 79, 80, 81, 82, 83, 84, 85, 86, 87, 88, 89, 90, 91, 92, 93, 94, 95, 108, 109, 110, 111] (by decide +kernel) (by decide +kernel)
set_option maxRecDepth 20000 in
theorem gJ5_append_3fe6f_J5_inflate_da8c8_u195J4 : GoodIn wsJ5_append_3fe6f (va_wsU RJ5 195 RJ4 "java/lang/AbstractStringBuilder" ⟨"java/lang/AbstractStringBuilder", "inflate", "()V"⟩ yJ5_inflate_da8c8 wsJ5_inflate_da8c8) := goodIn_app (goodIn_of _ (by decide +kernel)) ggJ5_append_3fe6f_J5_inflate_da8c8
set_option maxRecDepth 20000 in
theorem ggJ5_append_3fe6f_J2_putCharSB_b72d1 : GoodIn wsJ5_append_3fe6f wsJ2_putCharSB_b72d1 := goodIn_r _ [98, 99, 100, 63, 101, 78, 79, 80, 102, 103, 83, 104, 85, 105, 106, 88, 107, 90, 91, 92, 93, 94, 95] (by decide +kernel) (by decide +kernel)
set_option maxRecDepth 20000 in
theorem gJ5_append_3fe6f_J2_putCharSB_b72d1 : GoodIn wsJ5_append_3fe6f (va_wsS RJ5 197 yJ2_putCharSB_b72d1 wsJ2_putCharSB_b72d1) := goodIn_app (goodIn_of _ (by decide +kernel)) ggJ5_append_3fe6f_J2_putCharSB_b72d1
theorem dJ5_append_3fe6f_0 : decode cJ5_append_3fe6f 0 = .ok (.aload_n 0, 1) := by decide +kernel
theorem dJ5_append_3fe6f_1 : decode cJ5_append_3fe6f 1 = .ok (.aload_n 0, 1) := by decide +kernel
theorem dJ5_append_3fe6f_2 : decode cJ5_append_3fe6f 2 = .ok (.getfield 79, 3) := by decide +kernel
theorem dJ5_append_3fe6f_5 : decode cJ5_append_3fe6f 5 = .ok (.iconst 1, 1) := by decide +kernel
theorem dJ5_append_3fe6f_6 : decode cJ5_append_3fe6f 6 = .ok (.iadd, 1) := by decide +kernel
theorem dJ5_append_3fe6f_7 : decode cJ5_append_3fe6f 7 = .ok (.invokevirtual 100, 3) := by decide +kernel
theorem dJ5_append_3fe6f_10 : decode cJ5_append_3fe6f 10 = .ok (.aload_n 0, 1) := by decide +kernel
theorem dJ5_append_3fe6f_11 : decode cJ5_append_3fe6f 11 = .ok (.invokevirtual 83, 3) := by decide +kernel
theorem dJ5_append_3fe6f_14 : decode cJ5_append_3fe6f 14 = .ok (.ifCond .eq 31, 3) := by decide +kernel
theorem dJ5_append_3fe6f_17 : decode cJ5_append_3fe6f 17 = .ok (.iload_n 1, 1) := by decide +kernel
theorem dJ5_append_3fe6f_18 : decode cJ5_append_3fe6f 18 = .ok (.invokestatic 191, 3) := by decide +kernel
theorem dJ5_append_3fe6f_21 : decode cJ5_append_3fe6f 21 = .ok (.ifCond .eq 24, 3) := by decide +kernel
theorem dJ5_append_3fe6f_24 : decode cJ5_append_3fe6f 24 = .ok (.aload_n 0, 1) := by decide +kernel
theorem dJ5_append_3fe6f_25 : decode cJ5_append_3fe6f 25 = .ok (.getfield 15, 3) := by decide +kernel
theorem dJ5_append_3fe6f_28 : decode cJ5_append_3fe6f 28 = .ok (.aload_n 0, 1) := by decide +kernel
theorem dJ5_append_3fe6f_29 : decode cJ5_append_3fe6f 29 = .ok (.dup, 1) := by decide +kernel
theorem dJ5_append_3fe6f_30 : decode cJ5_append_3fe6f 30 = .ok (.getfield 79, 3) := by decide +kernel
theorem dJ5_append_3fe6f_33 : decode cJ5_append_3fe6f 33 = .ok (.dup_x1, 1) := by decide +kernel
theorem dJ5_append_3fe6f_34 : decode cJ5_append_3fe6f 34 = .ok (.iconst 1, 1) := by decide +kernel
theorem dJ5_append_3fe6f_35 : decode cJ5_append_3fe6f 35 = .ok (.iadd, 1) := by decide +kernel
theorem dJ5_append_3fe6f_36 : decode cJ5_append_3fe6f 36 = .ok (.putfield 79, 3) := by decide +kernel
theorem dJ5_append_3fe6f_39 : decode cJ5_append_3fe6f 39 = .ok (.iload_n 1, 1) := by decide +kernel
theorem dJ5_append_3fe6f_40 : decode cJ5_append_3fe6f 40 = .ok (.i2b, 1) := by decide +kernel
theorem dJ5_append_3fe6f_41 : decode cJ5_append_3fe6f 41 = .ok (.bastore, 1) := by decide +kernel
theorem dJ5_append_3fe6f_42 : decode cJ5_append_3fe6f 42 = .ok (.goto 33, 3) := by decide +kernel
theorem dJ5_append_3fe6f_45 : decode cJ5_append_3fe6f 45 = .ok (.aload_n 0, 1) := by decide +kernel
theorem dJ5_append_3fe6f_46 : decode cJ5_append_3fe6f 46 = .ok (.invokevirtual 83, 3) := by decide +kernel
theorem dJ5_append_3fe6f_49 : decode cJ5_append_3fe6f 49 = .ok (.ifCond .eq 7, 3) := by decide +kernel
theorem dJ5_append_3fe6f_52 : decode cJ5_append_3fe6f 52 = .ok (.aload_n 0, 1) := by decide +kernel
theorem dJ5_append_3fe6f_53 : decode cJ5_append_3fe6f 53 = .ok (.invokevirtual 195, 3) := by decide +kernel
theorem dJ5_append_3fe6f_56 : decode cJ5_append_3fe6f 56 = .ok (.aload_n 0, 1) := by decide +kernel
theorem dJ5_append_3fe6f_57 : decode cJ5_append_3fe6f 57 = .ok (.getfield 15, 3) := by decide +kernel
theorem dJ5_append_3fe6f_60 : decode cJ5_append_3fe6f 60 = .ok (.aload_n 0, 1) := by decide +kernel
theorem dJ5_append_3fe6f_61 : decode cJ5_append_3fe6f 61 = .ok (.dup, 1) := by decide +kernel
theorem dJ5_append_3fe6f_62 : decode cJ5_append_3fe6f 62 = .ok (.getfield 79, 3) := by decide +kernel
theorem dJ5_append_3fe6f_65 : decode cJ5_append_3fe6f 65 = .ok (.dup_x1, 1) := by decide +kernel
theorem dJ5_append_3fe6f_66 : decode cJ5_append_3fe6f 66 = .ok (.iconst 1, 1) := by decide +kernel
theorem dJ5_append_3fe6f_67 : decode cJ5_append_3fe6f 67 = .ok (.iadd, 1) := by decide +kernel
theorem dJ5_append_3fe6f_68 : decode cJ5_append_3fe6f 68 = .ok (.putfield 79, 3) := by decide +kernel
theorem dJ5_append_3fe6f_71 : decode cJ5_append_3fe6f 71 = .ok (.iload_n 1, 1) := by decide +kernel
theorem dJ5_append_3fe6f_72 : decode cJ5_append_3fe6f 72 = .ok (.invokestatic 197, 3) := by decide +kernel
theorem dJ5_append_3fe6f_75 : decode cJ5_append_3fe6f 75 = .ok (.aload_n 0, 1) := by decide +kernel
theorem dJ5_append_3fe6f_76 : decode cJ5_append_3fe6f 76 = .ok (.areturn, 1) := by decide +kernel
set_option maxRecDepth 20000 in
theorem ggJ5_append_c97b9_J6_stringSize_0f7a4 : GoodIn wsJ5_append_c97b9 wsJ6_stringSize_0f7a4 := goodIn_r _ [6] (by decide +kernel) (by decide +kernel)
set_option maxRecDepth 20000 in
theorem gJ5_append_c97b9_J6_stringSize_0f7a4 : GoodIn wsJ5_append_c97b9 (va_wsS RJ5 245 yJ6_stringSize_0f7a4 wsJ6_stringSize_0f7a4) := goodIn_app (goodIn_of _ (by decide +kernel)) ggJ5_append_c97b9_J6_stringSize_0f7a4
set_option maxRecDepth 20000 in
theorem ggJ5_append_c97b9_J5_ensureCapacityInternal_d00df : GoodIn wsJ5_append_c97b9 wsJ5_ensureCapacityInternal_d00df := goodIn_r _ [12, 2, 13, 14, 15, 16, 17, 11, 18, 19, 20, 21, 22, 23, 24, 25, 26, 27, 28, 29, 30, 31, 32, 33, 34, 35, 36, 37, 38, 39, 40, 41, 42, 43, 44, 45, 46, 47, 48, 49, 91, 92, 93, 94] (by decide +kernel) (by decide +kernel)
set_option maxRecDepth 20000 in
theorem gJ5_append_c97b9_J5_ensureCapacityInternal_d00df_u100J4 : GoodIn wsJ5_append_c97b9 (va_wsU RJ5 100 RJ4 "java/lang/AbstractStringBuilder" ⟨"java/lang/AbstractStringBuilder", "ensureCapacityInternal", "(I)V"⟩ yJ5_ensureCapacityInternal_d00df wsJ5_ensureCapacityInternal_d00df) := goodIn_app (goodIn_of _ (by decide +kernel)) ggJ5_append_c97b9_J5_ensureCapacityInternal_d00df
set_option maxRecDepth 20000 in
theorem ggJ5_append_c97b9_J5_isLatin1_aae02 : GoodIn wsJ5_append_c97b9 wsJ5_isLatin1_aae02 := goodIn_r _ [54, 55, 13, 91, 92, 93, 94] (by decide +kernel) (by decide +kernel)
set_option maxRecDepth 20000 in
theorem gJ5_append_c97b9_J5_isLatin1_aae02_u83J4 : GoodIn wsJ5_append_c97b9 (va_wsU RJ5 83 RJ4 "java/lang/AbstractStringBuilder" ⟨"java/lang/AbstractStringBuilder", "isLatin1", "()Z"⟩ yJ5_isLatin1_aae02 wsJ5_isLatin1_aae02) := goodIn_app (goodIn_of _ (by decide +kernel)) ggJ5_append_c97b9_J5_isLatin1_aae02
set_option maxRecDepth 20000 in
theorem ggJ5_append_c97b9_J6_getChars_ba4f3 : GoodIn wsJ5_append_c97b9 wsJ6_getChars_ba4f3 := goodIn_r _ [58, 59, 60] (by decide +kernel) (by decide +kernel)
set_option maxRecDepth 20000 in
theorem gJ5_append_c97b9_J6_getChars_ba4f3 : GoodIn wsJ5_append_c97b9 (va_wsS RJ5 248 yJ6_getChars_ba4f3 wsJ6_getChars_ba4f3) := goodIn_app (goodIn_of _ (by decide +kernel)) ggJ5_append_c97b9_J6_getChars_ba4f3
set_option maxRecDepth 20000 in
theorem ggJ5_append_c97b9_J2_getChars_46870 : GoodIn wsJ5_append_c97b9 wsJ2_getChars_46870 := goodIn_r _ [64, 65, 66, 67, 63, 68, 69, 70, 71, 72, 73, 74, 75, 76, 77, 78, 79, 80, 81, 82, 83, 84, 85, 86, 87, 88, 89, 90] (by decide +kernel) (by decide +kernel)
set_option maxRecDepth 20000 in
theorem gJ5_append_c97b9_J2_getChars_46870 : GoodIn wsJ5_append_c97b9 (va_wsS RJ5 251 yJ2_getChars_46870 wsJ2_getChars_46870) := goodIn_app (goodIn_of _ (by decide +kernel)) ggJ5_append_c97b9_J2_getChars_46870
theorem dJ5_append_c97b9_0 : decode cJ5_append_c97b9 0 = .ok (.aload_n 0, 1) := by decide +kernel
theorem dJ5_append_c97b9_1 : decode cJ5_append_c97b9 1 = .ok (.getfield 79, 3) := by decide +kernel
theorem dJ5_append_c97b9_4 : decode cJ5_append_c97b9 4 = .ok (.istore_n 2, 1) := by decide +kernel
theorem dJ5_append_c97b9_5 : decode cJ5_append_c97b9 5 = .ok (.iload_n 2, 1) := by decide +kernel
theorem dJ5_append_c97b9_6 : decode cJ5_append_c97b9 6 = .ok (.iload_n 1, 1) := by decide +kernel
theorem dJ5_append_c97b9_7 : decode cJ5_append_c97b9 7 = .ok (.invokestatic 245, 3) := by decide +kernel
theorem dJ5_append_c97b9_10 : decode cJ5_append_c97b9 10 = .ok (.iadd, 1) := by decide +kernel
theorem dJ5_append_c97b9_11 : decode cJ5_append_c97b9 11 = .ok (.istore_n 3, 1) := by decide +kernel
theorem dJ5_append_c97b9_12 : decode cJ5_append_c97b9 12 = .ok (.aload_n 0, 1) := by decide +kernel
theorem dJ5_append_c97b9_13 : decode cJ5_append_c97b9 13 = .ok (.iload_n 3, 1) := by decide +kernel
theorem dJ5_append_c97b9_14 : decode cJ5_append_c97b9 14 = .ok (.invokevirtual 100, 3) := by decide +kernel
theorem dJ5_append_c97b9_17 : decode cJ5_append_c97b9 17 = .ok (.aload_n 0, 1) := by decide +kernel
theorem dJ5_append_c97b9_18 : decode cJ5_append_c97b9 18 = .ok (.invokevirtual 83, 3) := by decide +kernel
theorem dJ5_append_c97b9_21 : decode cJ5_append_c97b9 21 = .ok (.ifCond .eq 16, 3) := by decide +kernel
theorem dJ5_append_c97b9_24 : decode cJ5_append_c97b9 24 = .ok (.iload_n 1, 1) := by decide +kernel
theorem dJ5_append_c97b9_25 : decode cJ5_append_c97b9 25 = .ok (.iload_n 3, 1) := by decide +kernel
theorem dJ5_append_c97b9_26 : decode cJ5_append_c97b9 26 = .ok (.aload_n 0, 1) := by decide +kernel
theorem dJ5_append_c97b9_27 : decode cJ5_append_c97b9 27 = .ok (.getfield 15, 3) := by decide +kernel
theorem dJ5_append_c97b9_30 : decode cJ5_append_c97b9 30 = .ok (.invokestatic 248, 3) := by decide +kernel
theorem dJ5_append_c97b9_33 : decode cJ5_append_c97b9 33 = .ok (.pop, 1) := by decide +kernel
theorem dJ5_append_c97b9_34 : decode cJ5_append_c97b9 34 = .ok (.goto 14, 3) := by decide +kernel
theorem dJ5_append_c97b9_37 : decode cJ5_append_c97b9 37 = .ok (.iload_n 1, 1) := by decide +kernel
theorem dJ5_append_c97b9_38 : decode cJ5_append_c97b9 38 = .ok (.iload_n 2, 1) := by decide +kernel
theorem dJ5_append_c97b9_39 : decode cJ5_append_c97b9 39 = .ok (.iload_n 3, 1) := by decide +kernel
theorem dJ5_append_c97b9_40 : decode cJ5_append_c97b9 40 = .ok (.aload_n 0, 1) := by decide +kernel
theorem dJ5_append_c97b9_41 : decode cJ5_append_c97b9 41 = .ok (.getfield 15, 3) := by decide +kernel
theorem dJ5_append_c97b9_44 : decode cJ5_append_c97b9 44 = .ok (.invokestatic 251, 3) := by decide +kernel
theorem dJ5_append_c97b9_47 : decode cJ5_append_c97b9 47 = .ok (.pop, 1) := by decide +kernel
theorem dJ5_append_c97b9_48 : decode cJ5_append_c97b9 48 = .ok (.aload_n 0, 1) := by decide +kernel
theorem dJ5_append_c97b9_49 : decode cJ5_append_c97b9 49 = .ok (.iload_n 3, 1) := by decide +kernel
theorem dJ5_append_c97b9_50 : decode cJ5_append_c97b9 50 = .ok (.putfield 79, 3) := by decide +kernel
theorem dJ5_append_c97b9_53 : decode cJ5_append_c97b9 53 = .ok (.aload_n 0, 1) := by decide +kernel
theorem dJ5_append_c97b9_54 : decode cJ5_append_c97b9 54 = .ok (.areturn, 1) := by decide +kernel
theorem dJ5_getValue_6d5f1_0 : decode cJ5_getValue_6d5f1 0 = .ok (.aload_n 0, 1) := by decide +kernel
theorem dJ5_getValue_6d5f1_1 : decode cJ5_getValue_6d5f1 1 = .ok (.getfield 15, 3) := by decide +kernel
theorem dJ5_getValue_6d5f1_4 : decode cJ5_getValue_6d5f1 4 = .ok (.areturn, 1) := by decide +kernel
theorem dJ5_isLatin1_aae02_0 : decode cJ5_isLatin1_aae02 0 = .ok (.getstatic 18, 3) := by decide +kernel
theorem dJ5_isLatin1_aae02_3 : decode cJ5_isLatin1_aae02 3 = .ok (.ifCond .eq 14, 3) := by decide +kernel
theorem dJ5_isLatin1_aae02_6 : decode cJ5_isLatin1_aae02 6 = .ok (.aload_n 0, 1) := by decide +kernel
theorem dJ5_isLatin1_aae02_7 : decode cJ5_isLatin1_aae02 7 = .ok (.getfield 22, 3) := by decide +kernel
theorem dJ5_isLatin1_aae02_10 : decode cJ5_isLatin1_aae02 10 = .ok (.ifCond .ne 7, 3) := by decide +kernel
theorem dJ5_isLatin1_aae02_13 : decode cJ5_isLatin1_aae02 13 = .ok (.iconst 1, 1) := by decide +kernel
theorem dJ5_isLatin1_aae02_14 : decode cJ5_isLatin1_aae02 14 = .ok (.goto 4, 3) := by decide +kernel
theorem dJ5_isLatin1_aae02_17 : decode cJ5_isLatin1_aae02 17 = .ok (.iconst 0, 1) := by decide +kernel
theorem dJ5_isLatin1_aae02_18 : decode cJ5_isLatin1_aae02 18 = .ok (.ireturn, 1) := by decide +kernel
set_option maxRecDepth 20000 in
theorem ggJ5_inflateIfNeededFor_a7421_J0_coder_7d493 : GoodIn wsJ5_inflateIfNeededFor_a7421 wsJ0_coder_7d493 := goodIn_r _ [7, 8, 9, 63, 64, 65, 66] (by decide +kernel) (by decide +kernel)
set_option maxRecDepth 20000 in
theorem gJ5_inflateIfNeededFor_a7421_J0_coder_7d493 : GoodIn wsJ5_inflateIfNeededFor_a7421 (wsV RJ5 40 RJ0 yJ0_coder_7d493 wsJ0_coder_7d493) := goodIn_app (goodIn_of _ (by decide +kernel)) ggJ5_inflateIfNeededFor_a7421_J0_coder_7d493
set_option maxRecDepth 20000 in
theorem ggJ5_inflateIfNeededFor_a7421_J5_inflate_da8c8 : GoodIn wsJ5_inflateIfNeededFor_a7421 wsJ5_inflate_da8c8 := goodIn_r _ [15, 16, 17, 2, 18, 19, 20, 21, 14, 22, 1, 23, 24, 25, 26, 27, 28, 29, 30, 31, 32, 33, 34, 35, 36, 37, 38, 39, 40, 41, 42, 43, 44, 45, 46, 6, 47, 48, 49, 50, 51, 52, 53, 54, 55, 56, 57, 58, 59, 60, 61, 62] (by decide +kernel) (by decide +kernel)
set_option maxRecDepth 20000 in
theorem gJ5_inflateIfNeededFor_a7421_J5_inflate_da8c8_u195J4 : GoodIn wsJ5_inflateIfNeededFor_a7421 (va_wsU RJ5 195 RJ4 "java/lang/AbstractStringBuilder" ⟨"java/lang/AbstractStringBuilder", "inflate", "()V"⟩ yJ5_inflate_da8c8 wsJ5_inflate_da8c8) := goodIn_app (goodIn_of _ (by decide +kernel)) ggJ5_inflateIfNeededFor_a7421_J5_inflate_da8c8
theorem dJ5_inflateIfNeededFor_a7421_0 : decode cJ5_inflateIfNeededFor_a7421 0 = .ok (.getstatic 18, 3) := by decide +kernel
theorem dJ5_inflateIfNeededFor_a7421_3 : decode cJ5_inflateIfNeededFor_a7421 3 = .ok (.ifCond .eq 18, 3) := by decide +kernel
theorem dJ5_inflateIfNeededFor_a7421_6 : decode cJ5_inflateIfNeededFor_a7421 6 = .ok (.aload_n 0, 1) := by decide +kernel
theorem dJ5_inflateIfNeededFor_a7421_7 : decode cJ5_inflateIfNeededFor_a7421 7 = .ok (.getfield 22, 3) := by decide +kernel
theorem dJ5_inflateIfNeededFor_a7421_10 : decode cJ5_inflateIfNeededFor_a7421 10 = .ok (.aload_n 1, 1) := by decide +kernel
theorem dJ5_inflateIfNeededFor_a7421_11 : decode cJ5_inflateIfNeededFor_a7421 11 = .ok (.invokevirtual 40, 3) := by decide +kernel
theorem dJ5_inflateIfNeededFor_a7421_14 : decode cJ5_inflateIfNeededFor_a7421 14 = .ok (.if_icmp .eq 7, 3) := by decide +kernel
theorem dJ5_inflateIfNeededFor_a7421_17 : decode cJ5_inflateIfNeededFor_a7421 17 = .ok (.aload_n 0, 1) := by decide +kernel
theorem dJ5_inflateIfNeededFor_a7421_18 : decode cJ5_inflateIfNeededFor_a7421 18 = .ok (.invokevirtual 195, 3) := by decide +kernel
theorem dJ5_inflateIfNeededFor_a7421_21 : decode cJ5_inflateIfNeededFor_a7421 21 = .ok (.return_, 1) := by decide +kernel
set_option maxRecDepth 20000 in
theorem ggJ5_putStringAt_47b60_J5_inflateIfNeededFor_a7421 : GoodIn wsJ5_putStringAt_47b60 wsJ5_inflateIfNeededFor_a7421 := goodIn_r _ [8, 9, 2, 10, 11, 12, 13, 14, 15, 16, 17, 18, 19, 20, 7, 21, 1, 22, 23, 24, 25, 26, 27, 28, 29, 30, 31, 32, 33, 34, 35, 36, 37, 38, 39, 40, 41, 42, 43, 44, 45, 46, 47, 48, 49, 50, 51, 52, 53, 54, 55, 56, 57, 58, 59, 60, 61, 62, 63, 75, 76, 77, 78, 79, 80, 81, 82] (by decide +kernel) (by decide +kernel)
set_option maxRecDepth 20000 in
theorem gJ5_putStringAt_47b60_J5_inflateIfNeededFor_a7421_u397J4 : GoodIn wsJ5_putStringAt_47b60 (va_wsU RJ5 397 RJ4 "java/lang/AbstractStringBuilder" ⟨"java/lang/AbstractStringBuilder", "inflateIfNeededFor", "(Ljava/lang/String;)V"⟩ yJ5_inflateIfNeededFor_a7421 wsJ5_inflateIfNeededFor_a7421) := goodIn_app (goodIn_of _ (by decide +kernel)) ggJ5_putStringAt_47b60_J5_inflateIfNeededFor_a7421
set_option maxRecDepth 20000 in
theorem ggJ5_putStringAt_47b60_J0_getBytes_840e7 : GoodIn wsJ5_putStringAt_47b60 wsJ0_getBytes_840e7 := goodIn_r _ [67, 68, 69, 70, 71, 72, 73, 11, 12, 13, 14, 15, 16, 74, 38, 39, 40, 41, 42, 30, 43, 44, 45, 46, 47, 48, 49, 50, 51, 52, 53, 54, 55, 56, 57, 58, 59, 60, 61, 62, 63, 79, 80, 81, 82] (by decide +kernel) (by decide +kernel)
set_option maxRecDepth 20000 in
theorem gJ5_putStringAt_47b60_J0_getBytes_840e7 : GoodIn wsJ5_putStringAt_47b60 (wsV RJ5 399 RJ0 yJ0_getBytes_840e7 wsJ0_getBytes_840e7) := goodIn_app (goodIn_of _ (by decide +kernel)) ggJ5_putStringAt_47b60_J0_getBytes_840e7
theorem dJ5_putStringAt_47b60_0 : decode cJ5_putStringAt_47b60 0 = .ok (.aload_n 0, 1) := by decide +kernel
theorem dJ5_putStringAt_47b60_1 : decode cJ5_putStringAt_47b60 1 = .ok (.aload_n 2, 1) := by decide +kernel
theorem dJ5_putStringAt_47b60_2 : decode cJ5_putStringAt_47b60 2 = .ok (.invokevirtual 397, 3) := by decide +kernel
theorem dJ5_putStringAt_47b60_5 : decode cJ5_putStringAt_47b60 5 = .ok (.aload_n 2, 1) := by decide +kernel
theorem dJ5_putStringAt_47b60_6 : decode cJ5_putStringAt_47b60 6 = .ok (.aload_n 0, 1) := by decide +kernel
theorem dJ5_putStringAt_47b60_7 : decode cJ5_putStringAt_47b60 7 = .ok (.getfield 15, 3) := by decide +kernel
theorem dJ5_putStringAt_47b60_10 : decode cJ5_putStringAt_47b60 10 = .ok (.iload_n 1, 1) := by decide +kernel
theorem dJ5_putStringAt_47b60_11 : decode cJ5_putStringAt_47b60 11 = .ok (.aload_n 0, 1) := by decide +kernel
theorem dJ5_putStringAt_47b60_12 : decode cJ5_putStringAt_47b60 12 = .ok (.getfield 22, 3) := by decide +kernel
theorem dJ5_putStringAt_47b60_15 : decode cJ5_putStringAt_47b60 15 = .ok (.invokevirtual 399, 3) := by decide +kernel
theorem dJ5_putStringAt_47b60_18 : decode cJ5_putStringAt_47b60 18 = .ok (.return_, 1) := by decide +kernel
set_option maxRecDepth 20000 in
theorem ggJx00060_init_d00df_J4_init_da8c8 : GoodIn wsJx00060_init_d00df wsJ4_init_da8c8 := goodIn_r _ [6, 7, 8, 9, 10, 11, 12, 13, 14, 15, 16, 17, 18, 19, 20, 21, 22, 23, 24, 25, 236, 237, 238, 239] (by decide +kernel) (by decide +kernel)
set_option maxRecDepth 20000 in
theorem gJx00060_init_d00df_J4_init_da8c8 : GoodIn wsJx00060_init_d00df (wsJ4_init_da8c8) := ggJx00060_init_d00df_J4_init_da8c8
set_option maxRecDepth 20000 in
theorem ggJx00060_init_d00df_J4_append_15ec4 : GoodIn wsJx00060_init_d00df wsJ4_append_15ec4 := goodIn_r _ [29, 30, 31, 32, 33, 9, 34, 35, 36, 37, 38, 39, 40, 16, 41, 42, 43, 44, 45, 17, 46, 47, 48, 49, 50, 51, 52, 53, 54, 55, 56, 57, 58, 59, 60, 61, 62, 63, 64, 65, 66, 67, 68, 69, 70, 71, 72, 73, 15, 74, 75, 76, 77, 78, 79, 80, 81, 82, 83, 84, 85, 14, 86, 87, 20, 88, 89, 90, 91, 92, 93, 94, 95, 96, 97, 98, 99, 100, 101, 102, 103, 104, 105, 106, 107, 108, 109, 110, 111, 112, 113, 114, 115, 116, 117, 118, 119, 120, 121, 122, 123, 124, 125, 126, 127, 128, 129, 130, 131, 132, 133, 134, 135, 136, 18, 19, 21, 22, 23, 24, 25, 137, 138, 139, 140, 141, 142, 143, 144, 145, 146, 147, 148, 149, 150, 151, 152, 153, 154, 155, 156, 157, 158, 236, 237, 238, 239, 240, 241, 242, 243] (by decide +kernel) (by decide +kernel)
set_option maxRecDepth 20000 in
theorem gJx00060_init_d00df_J4_append_15ec4 : GoodIn wsJx00060_init_d00df (wsV RJx00060 15 RJ4 yJ4_append_15ec4 wsJ4_append_15ec4) := goodIn_app (goodIn_of _ (by decide +kernel)) ggJx00060_init_d00df_J4_append_15ec4
set_option maxRecDepth 20000 in
theorem ggJx00060_init_d00df_J4_append_bf812 : GoodIn wsJx00060_init_d00df wsJ4_append_bf812 := goodIn_r _ [162, 163, 164, 32, 165, 9, 166, 35, 16, 167, 168, 169, 170, 41, 42, 43, 44, 45, 17, 46, 47, 48, 49, 50, 51, 52, 53, 54, 55, 56, 57, 58, 59, 60, 61, 62, 63, 64, 65, 66, 67, 68, 69, 70, 71, 72, 73, 15, 74, 75, 76, 77, 78, 79, 80, 81, 82, 83, 84, 85, 14, 171, 172, 173, 174, 175, 176, 177, 20, 178, 89, 90, 91, 92, 93, 94, 95, 96, 97, 98, 99, 100, 101, 102, 103, 104, 179, 180, 181, 182, 183, 105, 106, 107, 108, 109, 236, 237, 238, 239] (by decide +kernel) (by decide +kernel)
set_option maxRecDepth 20000 in
theorem gJx00060_init_d00df_J4_append_bf812 : GoodIn wsJx00060_init_d00df (wsV RJx00060 19 RJ4 yJ4_append_bf812 wsJ4_append_bf812) := goodIn_app (goodIn_of _ (by decide +kernel)) ggJx00060_init_d00df_J4_append_bf812
set_option maxRecDepth 20000 in
theorem ggJx00060_init_d00df_J4_toString_0e30d : GoodIn wsJx00060_init_d00df wsJ4_toString_0e30d := goodIn_r _ [187, 188, 189, 98, 190, 191, 192, 193, 194, 195, 196, 12, 13, 120, 114, 119, 197, 198, 199, 200, 201, 9, 202, 16, 203, 204, 205, 206, 207, 3, 208, 209, 32, 210, 211, 35, 212, 82, 83, 84, 85, 14, 17, 213, 214, 66, 215, 68, 69, 70, 71, 72, 73, 216, 217, 218, 15, 74, 75, 58, 76, 77, 78, 79, 80, 219, 220, 221, 222, 2, 223, 224, 20, 225, 226, 227, 228, 144, 145, 146, 93, 94, 95, 147, 148, 149, 100, 150, 151, 103, 152, 229, 230, 231, 89, 108, 109, 22, 23, 24, 25, 232, 233, 234, 235, 240, 241, 242, 243, 236, 237, 238, 239] (by decide +kernel) (by decide +kernel)
set_option maxRecDepth 20000 in
theorem gJx00060_init_d00df_J4_toString_0e30d : GoodIn wsJx00060_init_d00df (wsV RJx00060 22 RJ4 yJ4_toString_0e30d wsJ4_toString_0e30d) := goodIn_app (goodIn_of _ (by decide +kernel)) ggJx00060_init_d00df_J4_toString_0e30d
theorem dJx00060_init_d00df_0 : decode cJx00060_init_d00df 0 = .ok (.aload_n 0, 1) := by decide +kernel
theorem dJx00060_init_d00df_1 : decode cJx00060_init_d00df 1 = .ok (.new 10, 3) := by decide +kernel
theorem dJx00060_init_d00df_4 : decode cJx00060_init_d00df 4 = .ok (.dup, 1) := by decide +kernel
theorem dJx00060_init_d00df_5 : decode cJx00060_init_d00df 5 = .ok (.invokespecial 12, 3) := by decide +kernel
theorem dJx00060_init_d00df_8 : decode cJx00060_init_d00df 8 = .ok (.ldc 13, 2) := by decide +kernel
theorem dJx00060_init_d00df_10 : decode cJx00060_init_d00df 10 = .ok (.invokevirtual 15, 3) := by decide +kernel
theorem dJx00060_init_d00df_13 : decode cJx00060_init_d00df 13 = .ok (.iload_n 1, 1) := by decide +kernel
theorem dJx00060_init_d00df_14 : decode cJx00060_init_d00df 14 = .ok (.invokevirtual 19, 3) := by decide +kernel
theorem dJx00060_init_d00df_17 : decode cJx00060_init_d00df 17 = .ok (.invokevirtual 22, 3) := by decide +kernel
theorem dJx00060_init_d00df_20 : decode cJx00060_init_d00df 20 = .ok (.invokespecial 7, 3) := by decide +kernel
theorem dJx00060_init_d00df_23 : decode cJx00060_init_d00df 23 = .ok (.return_, 1) := by decide +kernel
theorem dJx29ce0_ordinal_8abf5_0 : decode cJx29ce0_ordinal_8abf5 0 = .ok (.aload_n 0, 1) := by decide +kernel
theorem dJx29ce0_ordinal_8abf5_1 : decode cJx29ce0_ordinal_8abf5 1 = .ok (.getfield 7, 3) := by decide +kernel
theorem dJx29ce0_ordinal_8abf5_4 : decode cJx29ce0_ordinal_8abf5 4 = .ok (.ireturn, 1) := by decide +kernel
theorem dJ6_getChars_ba4f3_0 : decode cJ6_getChars_ba4f3 0 = .ok (.iload_n 1, 1) := by decide +kernel
theorem dJ6_getChars_ba4f3_1 : decode cJ6_getChars_ba4f3 1 = .ok (.istore 5, 2) := by decide +kernel
theorem dJ6_getChars_ba4f3_3 : decode cJ6_getChars_ba4f3 3 = .ok (.iload_n 0, 1) := by decide +kernel
theorem dJ6_getChars_ba4f3_4 : decode cJ6_getChars_ba4f3 4 = .ok (.ifCond .ge 7, 3) := by decide +kernel
theorem dJ6_getChars_ba4f3_7 : decode cJ6_getChars_ba4f3 7 = .ok (.iconst 1, 1) := by decide +kernel
theorem dJ6_getChars_ba4f3_8 : decode cJ6_getChars_ba4f3 8 = .ok (.goto 4, 3) := by decide +kernel
theorem dJ6_getChars_ba4f3_11 : decode cJ6_getChars_ba4f3 11 = .ok (.iconst 0, 1) := by decide +kernel
theorem dJ6_getChars_ba4f3_12 : decode cJ6_getChars_ba4f3 12 = .ok (.istore 6, 2) := by decide +kernel
theorem dJ6_getChars_ba4f3_14 : decode cJ6_getChars_ba4f3 14 = .ok (.iload 6, 2) := by decide +kernel
theorem dJ6_getChars_ba4f3_16 : decode cJ6_getChars_ba4f3 16 = .ok (.ifCond .ne 6, 3) := by decide +kernel
theorem dJ6_getChars_ba4f3_19 : decode cJ6_getChars_ba4f3 19 = .ok (.iload_n 0, 1) := by decide +kernel
theorem dJ6_getChars_ba4f3_20 : decode cJ6_getChars_ba4f3 20 = .ok (.ineg, 1) := by decide +kernel
theorem dJ6_getChars_ba4f3_21 : decode cJ6_getChars_ba4f3 21 = .ok (.istore_n 0, 1) := by decide +kernel
theorem dJ6_getChars_ba4f3_22 : decode cJ6_getChars_ba4f3 22 = .ok (.iload_n 0, 1) := by decide +kernel
theorem dJ6_getChars_ba4f3_23 : decode cJ6_getChars_ba4f3 23 = .ok (.bipush (-100), 2) := by decide +kernel
theorem dJ6_getChars_ba4f3_25 : decode cJ6_getChars_ba4f3 25 = .ok (.if_icmp .gt 47, 3) := by decide +kernel
theorem dJ6_getChars_ba4f3_28 : decode cJ6_getChars_ba4f3 28 = .ok (.iload_n 0, 1) := by decide +kernel
theorem dJ6_getChars_ba4f3_29 : decode cJ6_getChars_ba4f3 29 = .ok (.bipush 100, 2) := by decide +kernel
theorem dJ6_getChars_ba4f3_31 : decode cJ6_getChars_ba4f3 31 = .ok (.idiv, 1) := by decide +kernel
theorem dJ6_getChars_ba4f3_32 : decode cJ6_getChars_ba4f3 32 = .ok (.istore_n 3, 1) := by decide +kernel
theorem dJ6_getChars_ba4f3_33 : decode cJ6_getChars_ba4f3 33 = .ok (.iload_n 3, 1) := by decide +kernel
theorem dJ6_getChars_ba4f3_34 : decode cJ6_getChars_ba4f3 34 = .ok (.bipush 100, 2) := by decide +kernel
theorem dJ6_getChars_ba4f3_36 : decode cJ6_getChars_ba4f3 36 = .ok (.imul, 1) := by decide +kernel
theorem dJ6_getChars_ba4f3_37 : decode cJ6_getChars_ba4f3 37 = .ok (.iload_n 0, 1) := by decide +kernel
theorem dJ6_getChars_ba4f3_38 : decode cJ6_getChars_ba4f3 38 = .ok (.isub, 1) := by decide +kernel
theorem dJ6_getChars_ba4f3_39 : decode cJ6_getChars_ba4f3 39 = .ok (.istore 4, 2) := by decide +kernel
theorem dJ6_getChars_ba4f3_41 : decode cJ6_getChars_ba4f3 41 = .ok (.iload_n 3, 1) := by decide +kernel
theorem dJ6_getChars_ba4f3_42 : decode cJ6_getChars_ba4f3 42 = .ok (.istore_n 0, 1) := by decide +kernel
theorem dJ6_getChars_ba4f3_43 : decode cJ6_getChars_ba4f3 43 = .ok (.aload_n 2, 1) := by decide +kernel
theorem dJ6_getChars_ba4f3_44 : decode cJ6_getChars_ba4f3 44 = .ok (.iinc 5 (-1), 3) := by decide +kernel
theorem dJ6_getChars_ba4f3_47 : decode cJ6_getChars_ba4f3 47 = .ok (.iload 5, 2) := by decide +kernel
theorem dJ6_getChars_ba4f3_49 : decode cJ6_getChars_ba4f3 49 = .ok (.getstatic 83, 3) := by decide +kernel
theorem dJ6_getChars_ba4f3_52 : decode cJ6_getChars_ba4f3 52 = .ok (.iload 4, 2) := by decide +kernel
theorem dJ6_getChars_ba4f3_54 : decode cJ6_getChars_ba4f3 54 = .ok (.baload, 1) := by decide +kernel
theorem dJ6_getChars_ba4f3_55 : decode cJ6_getChars_ba4f3 55 = .ok (.bastore, 1) := by decide +kernel
theorem dJ6_getChars_ba4f3_56 : decode cJ6_getChars_ba4f3 56 = .ok (.aload_n 2, 1) := by decide +kernel
theorem dJ6_getChars_ba4f3_57 : decode cJ6_getChars_ba4f3 57 = .ok (.iinc 5 (-1), 3) := by decide +kernel
theorem dJ6_getChars_ba4f3_60 : decode cJ6_getChars_ba4f3 60 = .ok (.iload 5, 2) := by decide +kernel
theorem dJ6_getChars_ba4f3_62 : decode cJ6_getChars_ba4f3 62 = .ok (.getstatic 87, 3) := by decide +kernel
theorem dJ6_getChars_ba4f3_65 : decode cJ6_getChars_ba4f3 65 = .ok (.iload 4, 2) := by decide +kernel
theorem dJ6_getChars_ba4f3_67 : decode cJ6_getChars_ba4f3 67 = .ok (.baload, 1) := by decide +kernel
theorem dJ6_getChars_ba4f3_68 : decode cJ6_getChars_ba4f3 68 = .ok (.bastore, 1) := by decide +kernel
theorem dJ6_getChars_ba4f3_69 : decode cJ6_getChars_ba4f3 69 = .ok (.goto (-47), 3) := by decide +kernel
theorem dJ6_getChars_ba4f3_72 : decode cJ6_getChars_ba4f3 72 = .ok (.aload_n 2, 1) := by decide +kernel
theorem dJ6_getChars_ba4f3_73 : decode cJ6_getChars_ba4f3 73 = .ok (.iinc 5 (-1), 3) := by decide +kernel
theorem dJ6_getChars_ba4f3_76 : decode cJ6_getChars_ba4f3 76 = .ok (.iload 5, 2) := by decide +kernel
theorem dJ6_getChars_ba4f3_78 : decode cJ6_getChars_ba4f3 78 = .ok (.getstatic 83, 3) := by decide +kernel
theorem dJ6_getChars_ba4f3_81 : decode cJ6_getChars_ba4f3 81 = .ok (.iload_n 0, 1) := by decide +kernel
theorem dJ6_getChars_ba4f3_82 : decode cJ6_getChars_ba4f3 82 = .ok (.ineg, 1) := by decide +kernel
theorem dJ6_getChars_ba4f3_83 : decode cJ6_getChars_ba4f3 83 = .ok (.baload, 1) := by decide +kernel
theorem dJ6_getChars_ba4f3_84 : decode cJ6_getChars_ba4f3 84 = .ok (.bastore, 1) := by decide +kernel
theorem dJ6_getChars_ba4f3_85 : decode cJ6_getChars_ba4f3 85 = .ok (.iload_n 0, 1) := by decide +kernel
theorem dJ6_getChars_ba4f3_86 : decode cJ6_getChars_ba4f3 86 = .ok (.bipush (-9), 2) := by decide +kernel
theorem dJ6_getChars_ba4f3_88 : decode cJ6_getChars_ba4f3 88 = .ok (.if_icmp .ge 16, 3) := by decide +kernel
theorem dJ6_getChars_ba4f3_91 : decode cJ6_getChars_ba4f3 91 = .ok (.aload_n 2, 1) := by decide +kernel
theorem dJ6_getChars_ba4f3_92 : decode cJ6_getChars_ba4f3 92 = .ok (.iinc 5 (-1), 3) := by decide +kernel
theorem dJ6_getChars_ba4f3_95 : decode cJ6_getChars_ba4f3 95 = .ok (.iload 5, 2) := by decide +kernel
theorem dJ6_getChars_ba4f3_97 : decode cJ6_getChars_ba4f3 97 = .ok (.getstatic 87, 3) := by decide +kernel
theorem dJ6_getChars_ba4f3_100 : decode cJ6_getChars_ba4f3 100 = .ok (.iload_n 0, 1) := by decide +kernel
theorem dJ6_getChars_ba4f3_101 : decode cJ6_getChars_ba4f3 101 = .ok (.ineg, 1) := by decide +kernel
theorem dJ6_getChars_ba4f3_102 : decode cJ6_getChars_ba4f3 102 = .ok (.baload, 1) := by decide +kernel
theorem dJ6_getChars_ba4f3_103 : decode cJ6_getChars_ba4f3 103 = .ok (.bastore, 1) := by decide +kernel
theorem dJ6_getChars_ba4f3_104 : decode cJ6_getChars_ba4f3 104 = .ok (.iload 6, 2) := by decide +kernel
theorem dJ6_getChars_ba4f3_106 : decode cJ6_getChars_ba4f3 106 = .ok (.ifCond .eq 12, 3) := by decide +kernel
theorem dJ6_getChars_ba4f3_109 : decode cJ6_getChars_ba4f3 109 = .ok (.aload_n 2, 1) := by decide +kernel
theorem dJ6_getChars_ba4f3_110 : decode cJ6_getChars_ba4f3 110 = .ok (.iinc 5 (-1), 3) := by decide +kernel
theorem dJ6_getChars_ba4f3_113 : decode cJ6_getChars_ba4f3 113 = .ok (.iload 5, 2) := by decide +kernel
theorem dJ6_getChars_ba4f3_115 : decode cJ6_getChars_ba4f3 115 = .ok (.bipush 45, 2) := by decide +kernel
theorem dJ6_getChars_ba4f3_117 : decode cJ6_getChars_ba4f3 117 = .ok (.bastore, 1) := by decide +kernel
theorem dJ6_getChars_ba4f3_118 : decode cJ6_getChars_ba4f3 118 = .ok (.iload 5, 2) := by decide +kernel
theorem dJ6_getChars_ba4f3_120 : decode cJ6_getChars_ba4f3 120 = .ok (.ireturn, 1) := by decide +kernel
theorem dJ6_stringSize_0f7a4_0 : decode cJ6_stringSize_0f7a4 0 = .ok (.iconst 1, 1) := by decide +kernel
theorem dJ6_stringSize_0f7a4_1 : decode cJ6_stringSize_0f7a4 1 = .ok (.istore_n 1, 1) := by decide +kernel
theorem dJ6_stringSize_0f7a4_2 : decode cJ6_stringSize_0f7a4 2 = .ok (.iload_n 0, 1) := by decide +kernel
theorem dJ6_stringSize_0f7a4_3 : decode cJ6_stringSize_0f7a4 3 = .ok (.ifCond .lt 8, 3) := by decide +kernel
theorem dJ6_stringSize_0f7a4_6 : decode cJ6_stringSize_0f7a4 6 = .ok (.iconst 0, 1) := by decide +kernel
theorem dJ6_stringSize_0f7a4_7 : decode cJ6_stringSize_0f7a4 7 = .ok (.istore_n 1, 1) := by decide +kernel
theorem dJ6_stringSize_0f7a4_8 : decode cJ6_stringSize_0f7a4 8 = .ok (.iload_n 0, 1) := by decide +kernel
theorem dJ6_stringSize_0f7a4_9 : decode cJ6_stringSize_0f7a4 9 = .ok (.ineg, 1) := by decide +kernel
theorem dJ6_stringSize_0f7a4_10 : decode cJ6_stringSize_0f7a4 10 = .ok (.istore_n 0, 1) := by decide +kernel
theorem dJ6_stringSize_0f7a4_11 : decode cJ6_stringSize_0f7a4 11 = .ok (.bipush (-10), 2) := by decide +kernel
theorem dJ6_stringSize_0f7a4_13 : decode cJ6_stringSize_0f7a4 13 = .ok (.istore_n 2, 1) := by decide +kernel
theorem dJ6_stringSize_0f7a4_14 : decode cJ6_stringSize_0f7a4 14 = .ok (.iconst 1, 1) := by decide +kernel
theorem dJ6_stringSize_0f7a4_15 : decode cJ6_stringSize_0f7a4 15 = .ok (.istore_n 3, 1) := by decide +kernel
theorem dJ6_stringSize_0f7a4_16 : decode cJ6_stringSize_0f7a4 16 = .ok (.iload_n 3, 1) := by decide +kernel
theorem dJ6_stringSize_0f7a4_17 : decode cJ6_stringSize_0f7a4 17 = .ok (.bipush 10, 2) := by decide +kernel
theorem dJ6_stringSize_0f7a4_19 : decode cJ6_stringSize_0f7a4 19 = .ok (.if_icmp .ge 23, 3) := by decide +kernel
theorem dJ6_stringSize_0f7a4_22 : decode cJ6_stringSize_0f7a4 22 = .ok (.iload_n 0, 1) := by decide +kernel
theorem dJ6_stringSize_0f7a4_23 : decode cJ6_stringSize_0f7a4 23 = .ok (.iload_n 2, 1) := by decide +kernel
theorem dJ6_stringSize_0f7a4_24 : decode cJ6_stringSize_0f7a4 24 = .ok (.if_icmp .le 7, 3) := by decide +kernel
theorem dJ6_stringSize_0f7a4_27 : decode cJ6_stringSize_0f7a4 27 = .ok (.iload_n 3, 1) := by decide +kernel
theorem dJ6_stringSize_0f7a4_28 : decode cJ6_stringSize_0f7a4 28 = .ok (.iload_n 1, 1) := by decide +kernel
theorem dJ6_stringSize_0f7a4_29 : decode cJ6_stringSize_0f7a4 29 = .ok (.iadd, 1) := by decide +kernel
theorem dJ6_stringSize_0f7a4_30 : decode cJ6_stringSize_0f7a4 30 = .ok (.ireturn, 1) := by decide +kernel
theorem dJ6_stringSize_0f7a4_31 : decode cJ6_stringSize_0f7a4 31 = .ok (.bipush 10, 2) := by decide +kernel
theorem dJ6_stringSize_0f7a4_33 : decode cJ6_stringSize_0f7a4 33 = .ok (.iload_n 2, 1) := by decide +kernel
theorem dJ6_stringSize_0f7a4_34 : decode cJ6_stringSize_0f7a4 34 = .ok (.imul, 1) := by decide +kernel
theorem dJ6_stringSize_0f7a4_35 : decode cJ6_stringSize_0f7a4 35 = .ok (.istore_n 2, 1) := by decide +kernel
theorem dJ6_stringSize_0f7a4_36 : decode cJ6_stringSize_0f7a4 36 = .ok (.iinc 3 1, 3) := by decide +kernel
theorem dJ6_stringSize_0f7a4_39 : decode cJ6_stringSize_0f7a4 39 = .ok (.goto (-23), 3) := by decide +kernel
theorem dJ6_stringSize_0f7a4_42 : decode cJ6_stringSize_0f7a4 42 = .ok (.bipush 10, 2) := by decide +kernel
theorem dJ6_stringSize_0f7a4_44 : decode cJ6_stringSize_0f7a4 44 = .ok (.iload_n 1, 1) := by decide +kernel
theorem dJ6_stringSize_0f7a4_45 : decode cJ6_stringSize_0f7a4 45 = .ok (.iadd, 1) := by decide +kernel
theorem dJ6_stringSize_0f7a4_46 : decode cJ6_stringSize_0f7a4 46 = .ok (.ireturn, 1) := by decide +kernel
theorem dJ9_abs_0f7a4_0 : decode cJ9_abs_0f7a4 0 = .ok (.iload_n 0, 1) := by decide +kernel
theorem dJ9_abs_0f7a4_1 : decode cJ9_abs_0f7a4 1 = .ok (.ifCond .ge 8, 3) := by decide +kernel
theorem dJ9_abs_0f7a4_4 : decode cJ9_abs_0f7a4 4 = .ok (.iload_n 0, 1) := by decide +kernel
theorem dJ9_abs_0f7a4_5 : decode cJ9_abs_0f7a4 5 = .ok (.ineg, 1) := by decide +kernel
theorem dJ9_abs_0f7a4_6 : decode cJ9_abs_0f7a4 6 = .ok (.goto 4, 3) := by decide +kernel
theorem dJ9_abs_0f7a4_9 : decode cJ9_abs_0f7a4 9 = .ok (.iload_n 0, 1) := by decide +kernel
theorem dJ9_abs_0f7a4_10 : decode cJ9_abs_0f7a4 10 = .ok (.ireturn, 1) := by decide +kernel
theorem dJ9_max_7cf53_0 : decode cJ9_max_7cf53 0 = .ok (.iload_n 0, 1) := by decide +kernel
theorem dJ9_max_7cf53_1 : decode cJ9_max_7cf53 1 = .ok (.iload_n 1, 1) := by decide +kernel
theorem dJ9_max_7cf53_2 : decode cJ9_max_7cf53 2 = .ok (.if_icmp .lt 7, 3) := by decide +kernel
theorem dJ9_max_7cf53_5 : decode cJ9_max_7cf53 5 = .ok (.iload_n 0, 1) := by decide +kernel
theorem dJ9_max_7cf53_6 : decode cJ9_max_7cf53 6 = .ok (.goto 4, 3) := by decide +kernel
theorem dJ9_max_7cf53_9 : decode cJ9_max_7cf53 9 = .ok (.iload_n 1, 1) := by decide +kernel
theorem dJ9_max_7cf53_10 : decode cJ9_max_7cf53 10 = .ok (.ireturn, 1) := by decide +kernel
theorem dJ9_min_7cf53_0 : decode cJ9_min_7cf53 0 = .ok (.iload_n 0, 1) := by decide +kernel
theorem dJ9_min_7cf53_1 : decode cJ9_min_7cf53 1 = .ok (.iload_n 1, 1) := by decide +kernel
theorem dJ9_min_7cf53_2 : decode cJ9_min_7cf53 2 = .ok (.if_icmp .gt 7, 3) := by decide +kernel
theorem dJ9_min_7cf53_5 : decode cJ9_min_7cf53 5 = .ok (.iload_n 0, 1) := by decide +kernel
theorem dJ9_min_7cf53_6 : decode cJ9_min_7cf53 6 = .ok (.goto 4, 3) := by decide +kernel
theorem dJ9_min_7cf53_9 : decode cJ9_min_7cf53 9 = .ok (.iload_n 1, 1) := by decide +kernel
theorem dJ9_min_7cf53_10 : decode cJ9_min_7cf53 10 = .ok (.ireturn, 1) := by decide +kernel
set_option maxRecDepth 20000 in
theorem ggJ0_init_81219_J0_init_db425 : GoodIn wsJ0_init_81219 wsJ0_init_db425 := goodIn_r _ [4, 5, 6, 7, 8, 9, 10, 11, 12, 13, 14, 15, 16, 17, 18, 19, 20, 21, 22, 23, 24, 25, 26, 27, 28, 29, 30, 31, 32, 33, 34, 35, 36, 37, 38, 39, 40, 41, 42, 43, 44, 45, 46, 47, 48, 49, 50, 51, 52, 53, 54, 55, 56, 57, 58, 59, 60, 61, 62, 63, 64, 65, 66, 67, 68, 69, 70, 71, 72, 73, 74, 75, 76, 77, 78, 79, 3, 80, 81, 82, 83, 84, 85, 86, 87, 88, 89, 90, 91, 92, 93, 94, 95, 96, 97, 98, 99, 100, 101, 102, 103, 104, 105, 106, 107] (by decide +kernel) (by decide +kernel)
set_option maxRecDepth 20000 in
theorem gJ0_init_81219_J0_init_db425 : GoodIn wsJ0_init_81219 (wsJ0_init_db425) := ggJ0_init_81219_J0_init_db425
theorem dJ0_init_81219_0 : decode cJ0_init_81219 0 = .ok (.aload_n 0, 1) := by decide +kernel
theorem dJ0_init_81219_1 : decode cJ0_init_81219 1 = .ok (.aload_n 1, 1) := by decide +kernel
theorem dJ0_init_81219_2 : decode cJ0_init_81219 2 = .ok (.aconst_null, 1) := by decide +kernel
theorem dJ0_init_81219_3 : decode cJ0_init_81219 3 = .ok (.invokespecial 489, 3) := by decide +kernel
theorem dJ0_init_81219_6 : decode cJ0_init_81219 6 = .ok (.return_, 1) := by decide +kernel
set_option maxRecDepth 20000 in
theorem ggJ0_length_8abf5_J0_coder_7d493 : GoodIn wsJ0_length_8abf5 wsJ0_coder_7d493 := goodIn_r _ [6, 7, 8, 9, 10, 11, 12] (by decide +kernel) (by decide +kernel)
set_option maxRecDepth 20000 in
theorem gJ0_length_8abf5_J0_coder_7d493 : GoodIn wsJ0_length_8abf5 (wsV RJ0 335 RJ0 yJ0_coder_7d493 wsJ0_coder_7d493) := goodIn_app (goodIn_of _ (by decide +kernel)) ggJ0_length_8abf5_J0_coder_7d493
theorem dJ0_length_8abf5_0 : decode cJ0_length_8abf5 0 = .ok (.aload_n 0, 1) := by decide +kernel
theorem dJ0_length_8abf5_1 : decode cJ0_length_8abf5 1 = .ok (.getfield 9, 3) := by decide +kernel
theorem dJ0_length_8abf5_4 : decode cJ0_length_8abf5 4 = .ok (.arraylength, 1) := by decide +kernel
theorem dJ0_length_8abf5_5 : decode cJ0_length_8abf5 5 = .ok (.aload_n 0, 1) := by decide +kernel
theorem dJ0_length_8abf5_6 : decode cJ0_length_8abf5 6 = .ok (.invokevirtual 335, 3) := by decide +kernel
theorem dJ0_length_8abf5_9 : decode cJ0_length_8abf5 9 = .ok (.ishr, 1) := by decide +kernel
theorem dJ0_length_8abf5_10 : decode cJ0_length_8abf5 10 = .ok (.ireturn, 1) := by decide +kernel
set_option maxRecDepth 20000 in
theorem ggJ0_charAt_5068e_J0_isLatin1_aae02 : GoodIn wsJ0_charAt_5068e wsJ0_isLatin1_aae02 := goodIn_r _ [6, 7, 8, 38, 39, 40, 41] (by decide +kernel) (by decide +kernel)
set_option maxRecDepth 20000 in
theorem gJ0_charAt_5068e_J0_isLatin1_aae02 : GoodIn wsJ0_charAt_5068e (wsV RJ0 492 RJ0 yJ0_isLatin1_aae02 wsJ0_isLatin1_aae02) := goodIn_app (goodIn_of _ (by decide +kernel)) ggJ0_charAt_5068e_J0_isLatin1_aae02
set_option maxRecDepth 20000 in
theorem ggJ0_charAt_5068e_J1_charAt_3b067 : GoodIn wsJ0_charAt_5068e wsJ1_charAt_3b067 := goodIn_r _ [12, 13, 14, 5, 15, 16, 17, 18, 19, 20] (by decide +kernel) (by decide +kernel)
set_option maxRecDepth 20000 in
theorem gJ0_charAt_5068e_J1_charAt_3b067 : GoodIn wsJ0_charAt_5068e (va_wsS RJ0 495 yJ1_charAt_3b067 wsJ1_charAt_3b067) := goodIn_app (goodIn_of _ (by decide +kernel)) ggJ0_charAt_5068e_J1_charAt_3b067
set_option maxRecDepth 20000 in
theorem ggJ0_charAt_5068e_J2_charAt_3b067 : GoodIn wsJ0_charAt_5068e wsJ2_charAt_3b067 := goodIn_r _ [24, 25, 26, 23, 27, 28, 29, 30, 31, 14, 5, 15, 16, 17, 18, 19, 20, 32, 33, 34, 35, 36, 37] (by decide +kernel) (by decide +kernel)
set_option maxRecDepth 20000 in
theorem gJ0_charAt_5068e_J2_charAt_3b067 : GoodIn wsJ0_charAt_5068e (va_wsS RJ0 498 yJ2_charAt_3b067 wsJ2_charAt_3b067) := goodIn_app (goodIn_of _ (by decide +kernel)) ggJ0_charAt_5068e_J2_charAt_3b067
theorem dJ0_charAt_5068e_0 : decode cJ0_charAt_5068e 0 = .ok (.aload_n 0, 1) := by decide +kernel
theorem dJ0_charAt_5068e_1 : decode cJ0_charAt_5068e 1 = .ok (.invokevirtual 492, 3) := by decide +kernel
theorem dJ0_charAt_5068e_4 : decode cJ0_charAt_5068e 4 = .ok (.ifCond .eq 12, 3) := by decide +kernel
theorem dJ0_charAt_5068e_7 : decode cJ0_charAt_5068e 7 = .ok (.aload_n 0, 1) := by decide +kernel
theorem dJ0_charAt_5068e_8 : decode cJ0_charAt_5068e 8 = .ok (.getfield 9, 3) := by decide +kernel
theorem dJ0_charAt_5068e_11 : decode cJ0_charAt_5068e 11 = .ok (.iload_n 1, 1) := by decide +kernel
theorem dJ0_charAt_5068e_12 : decode cJ0_charAt_5068e 12 = .ok (.invokestatic 495, 3) := by decide +kernel
theorem dJ0_charAt_5068e_15 : decode cJ0_charAt_5068e 15 = .ok (.ireturn, 1) := by decide +kernel
theorem dJ0_charAt_5068e_16 : decode cJ0_charAt_5068e 16 = .ok (.aload_n 0, 1) := by decide +kernel
theorem dJ0_charAt_5068e_17 : decode cJ0_charAt_5068e 17 = .ok (.getfield 9, 3) := by decide +kernel
theorem dJ0_charAt_5068e_20 : decode cJ0_charAt_5068e 20 = .ok (.iload_n 1, 1) := by decide +kernel
theorem dJ0_charAt_5068e_21 : decode cJ0_charAt_5068e 21 = .ok (.invokestatic 498, 3) := by decide +kernel
theorem dJ0_charAt_5068e_24 : decode cJ0_charAt_5068e 24 = .ok (.ireturn, 1) := by decide +kernel
set_option maxRecDepth 20000 in
theorem ggJ0_getBytes_840e7_J0_coder_7d493 : GoodIn wsJ0_getBytes_840e7 wsJ0_coder_7d493 := goodIn_r _ [10, 11, 12, 41, 42, 43, 44] (by decide +kernel) (by decide +kernel)
set_option maxRecDepth 20000 in
theorem gJ0_getBytes_840e7_J0_coder_7d493 : GoodIn wsJ0_getBytes_840e7 (wsV RJ0 335 RJ0 yJ0_coder_7d493 wsJ0_coder_7d493) := goodIn_app (goodIn_of _ (by decide +kernel)) ggJ0_getBytes_840e7_J0_coder_7d493
set_option maxRecDepth 20000 in
theorem ggJ0_getBytes_840e7_J1_inflate_0e8fd : GoodIn wsJ0_getBytes_840e7 wsJ1_inflate_0e8fd := goodIn_r _ [16, 17, 18, 19, 20, 21, 22, 23, 24, 25, 26, 27, 28, 9, 29, 30, 31, 32, 33, 34, 35, 36, 37, 38, 39, 40] (by decide +kernel) (by decide +kernel)
set_option maxRecDepth 20000 in
theorem gJ0_getBytes_840e7_J1_inflate_0e8fd : GoodIn wsJ0_getBytes_840e7 (va_wsS RJ0 106 yJ1_inflate_0e8fd wsJ1_inflate_0e8fd) := goodIn_app (goodIn_of _ (by decide +kernel)) ggJ0_getBytes_840e7_J1_inflate_0e8fd
theorem dJ0_getBytes_840e7_0 : decode cJ0_getBytes_840e7 0 = .ok (.aload_n 0, 1) := by decide +kernel
theorem dJ0_getBytes_840e7_1 : decode cJ0_getBytes_840e7 1 = .ok (.invokevirtual 335, 3) := by decide +kernel
theorem dJ0_getBytes_840e7_4 : decode cJ0_getBytes_840e7 4 = .ok (.iload_n 3, 1) := by decide +kernel
theorem dJ0_getBytes_840e7_5 : decode cJ0_getBytes_840e7 5 = .ok (.if_icmp .ne 23, 3) := by decide +kernel
theorem dJ0_getBytes_840e7_8 : decode cJ0_getBytes_840e7 8 = .ok (.aload_n 0, 1) := by decide +kernel
theorem dJ0_getBytes_840e7_9 : decode cJ0_getBytes_840e7 9 = .ok (.getfield 9, 3) := by decide +kernel
theorem dJ0_getBytes_840e7_12 : decode cJ0_getBytes_840e7 12 = .ok (.iconst 0, 1) := by decide +kernel
theorem dJ0_getBytes_840e7_13 : decode cJ0_getBytes_840e7 13 = .ok (.aload_n 1, 1) := by decide +kernel
theorem dJ0_getBytes_840e7_14 : decode cJ0_getBytes_840e7 14 = .ok (.iload_n 2, 1) := by decide +kernel
theorem dJ0_getBytes_840e7_15 : decode cJ0_getBytes_840e7 15 = .ok (.iload_n 3, 1) := by decide +kernel
theorem dJ0_getBytes_840e7_16 : decode cJ0_getBytes_840e7 16 = .ok (.ishl, 1) := by decide +kernel
theorem dJ0_getBytes_840e7_17 : decode cJ0_getBytes_840e7 17 = .ok (.aload_n 0, 1) := by decide +kernel
theorem dJ0_getBytes_840e7_18 : decode cJ0_getBytes_840e7 18 = .ok (.getfield 9, 3) := by decide +kernel
theorem dJ0_getBytes_840e7_21 : decode cJ0_getBytes_840e7 21 = .ok (.arraylength, 1) := by decide +kernel
theorem dJ0_getBytes_840e7_22 : decode cJ0_getBytes_840e7 22 = .ok (.invokestatic 212, 3) := by decide +kernel
theorem dJ0_getBytes_840e7_25 : decode cJ0_getBytes_840e7 25 = .ok (.goto 18, 3) := by decide +kernel
theorem dJ0_getBytes_840e7_28 : decode cJ0_getBytes_840e7 28 = .ok (.aload_n 0, 1) := by decide +kernel
theorem dJ0_getBytes_840e7_29 : decode cJ0_getBytes_840e7 29 = .ok (.getfield 9, 3) := by decide +kernel
theorem dJ0_getBytes_840e7_32 : decode cJ0_getBytes_840e7 32 = .ok (.iconst 0, 1) := by decide +kernel
theorem dJ0_getBytes_840e7_33 : decode cJ0_getBytes_840e7 33 = .ok (.aload_n 1, 1) := by decide +kernel
theorem dJ0_getBytes_840e7_34 : decode cJ0_getBytes_840e7 34 = .ok (.iload_n 2, 1) := by decide +kernel
theorem dJ0_getBytes_840e7_35 : decode cJ0_getBytes_840e7 35 = .ok (.aload_n 0, 1) := by decide +kernel
theorem dJ0_getBytes_840e7_36 : decode cJ0_getBytes_840e7 36 = .ok (.getfield 9, 3) := by decide +kernel
theorem dJ0_getBytes_840e7_39 : decode cJ0_getBytes_840e7 39 = .ok (.arraylength, 1) := by decide +kernel
theorem dJ0_getBytes_840e7_40 : decode cJ0_getBytes_840e7 40 = .ok (.invokestatic 106, 3) := by decide +kernel
theorem dJ0_getBytes_840e7_43 : decode cJ0_getBytes_840e7 43 = .ok (.return_, 1) := by decide +kernel
set_option maxRecDepth 20000 in
theorem ggJ0_init_db425_J5_getValue_6d5f1 : GoodIn wsJ0_init_db425 wsJ5_getValue_6d5f1 := goodIn_r _ [13, 14, 101, 102, 103, 104] (by decide +kernel) (by decide +kernel)
set_option maxRecDepth 20000 in
theorem gJ0_init_db425_J5_getValue_6d5f1_u552J4 : GoodIn wsJ0_init_db425 (va_wsU RJ0 552 RJ4 "java/lang/AbstractStringBuilder" ⟨"java/lang/AbstractStringBuilder", "getValue", "()[B"⟩ yJ5_getValue_6d5f1 wsJ5_getValue_6d5f1) := goodIn_app (goodIn_of _ (by decide +kernel)) ggJ0_init_db425_J5_getValue_6d5f1
set_option maxRecDepth 20000 in
theorem ggJ0_init_db425_J4_length_8abf5 : GoodIn wsJ0_init_db425 wsJ4_length_8abf5 := goodIn_r _ [21, 22, 16, 23, 24, 12, 25, 26, 101, 102, 103, 104] (by decide +kernel) (by decide +kernel)
set_option maxRecDepth 20000 in
theorem gJ0_init_db425_J4_length_8abf5_u549J4 : GoodIn wsJ0_init_db425 (va_wsO RJ0 549 RJ4 "java/lang/AbstractStringBuilder" ⟨"java/lang/AbstractStringBuilder", "length", "()I"⟩ yJ4_length_8abf5 wsJ4_length_8abf5) := goodIn_app (goodIn_of _ (by decide +kernel)) ggJ0_init_db425_J4_length_8abf5
set_option maxRecDepth 20000 in
theorem ggJ0_init_db425_J5_isLatin1_aae02 : GoodIn wsJ0_init_db425 wsJ5_isLatin1_aae02 := goodIn_r _ [31, 32, 33, 101, 102, 103, 104] (by decide +kernel) (by decide +kernel)
set_option maxRecDepth 20000 in
theorem gJ0_init_db425_J5_isLatin1_aae02_u1047J4 : GoodIn wsJ0_init_db425 (va_wsU RJ0 1047 RJ4 "java/lang/AbstractStringBuilder" ⟨"java/lang/AbstractStringBuilder", "isLatin1", "()Z"⟩ yJ5_isLatin1_aae02 wsJ5_isLatin1_aae02) := goodIn_app (goodIn_of _ (by decide +kernel)) ggJ0_init_db425_J5_isLatin1_aae02
set_option maxRecDepth 20000 in
theorem ggJ0_init_db425_J7_copyOfRange_39247 : GoodIn wsJ0_init_db425 wsJ7_copyOfRange_39247 := goodIn_r _ [37, 38, 39, 40, 41, 42, 43, 44, 45, 36, 46, 47, 48, 49, 50, 51, 52, 53, 54, 55, 56, 57, 58, 59, 60, 20, 101, 102, 103, 104] (by decide +kernel) (by decide +kernel)
set_option maxRecDepth 20000 in
theorem gJ0_init_db425_J7_copyOfRange_39247 : GoodIn wsJ0_init_db425 (va_wsS RJ0 54 yJ7_copyOfRange_39247 wsJ7_copyOfRange_39247) := goodIn_app (goodIn_of _ (by decide +kernel)) ggJ0_init_db425_J7_copyOfRange_39247
set_option maxRecDepth 20000 in
theorem ggJ0_init_db425_J2_compress_39247 : GoodIn wsJ0_init_db425 wsJ2_compress_39247 := goodIn_r _ [64, 47, 65, 66, 63, 67, 68, 69, 70, 71, 72, 73, 74, 75, 76, 77, 78, 79, 80, 81, 82, 83, 84, 85, 86, 87, 88, 89, 90, 91, 92, 93, 35, 36, 37, 38, 39, 40, 41, 42, 43, 44, 45, 46, 48, 49, 50, 51, 52, 53, 54, 55, 56, 57, 58, 59, 60, 20, 101, 102, 103, 104] (by decide +kernel) (by decide +kernel)
set_option maxRecDepth 20000 in
theorem gJ0_init_db425_J2_compress_39247 : GoodIn wsJ0_init_db425 (va_wsS RJ0 1051 yJ2_compress_39247 wsJ2_compress_39247) := goodIn_app (goodIn_of _ (by decide +kernel)) ggJ0_init_db425_J2_compress_39247
set_option maxRecDepth 20000 in
theorem ggJ0_init_db425_J2_coderFromArrayLen_85cad : GoodIn wsJ0_init_db425 wsJ2_coderFromArrayLen_85cad := goodIn_r _ [96] (by decide +kernel) (by decide +kernel)
set_option maxRecDepth 20000 in
theorem gJ0_init_db425_J2_coderFromArrayLen_85cad : GoodIn wsJ0_init_db425 (va_wsS RJ0 47 yJ2_coderFromArrayLen_85cad wsJ2_coderFromArrayLen_85cad) := goodIn_app (goodIn_of _ (by decide +kernel)) ggJ0_init_db425_J2_coderFromArrayLen_85cad
theorem dJ0_init_db425_0 : decode cJ0_init_db425 0 = .ok (.aload_n 0, 1) := by decide +kernel
theorem dJ0_init_db425_1 : decode cJ0_init_db425 1 = .ok (.invokespecial 1, 3) := by decide +kernel
theorem dJ0_init_db425_4 : decode cJ0_init_db425 4 = .ok (.aload_n 1, 1) := by decide +kernel
theorem dJ0_init_db425_5 : decode cJ0_init_db425 5 = .ok (.invokevirtual 552, 3) := by decide +kernel
theorem dJ0_init_db425_8 : decode cJ0_init_db425 8 = .ok (.astore_n 3, 1) := by decide +kernel
theorem dJ0_init_db425_9 : decode cJ0_init_db425 9 = .ok (.aload_n 1, 1) := by decide +kernel
theorem dJ0_init_db425_10 : decode cJ0_init_db425 10 = .ok (.invokevirtual 549, 3) := by decide +kernel
theorem dJ0_init_db425_13 : decode cJ0_init_db425 13 = .ok (.istore 4, 2) := by decide +kernel
theorem dJ0_init_db425_15 : decode cJ0_init_db425 15 = .ok (.aload_n 1, 1) := by decide +kernel
theorem dJ0_init_db425_16 : decode cJ0_init_db425 16 = .ok (.invokevirtual 1047, 3) := by decide +kernel
theorem dJ0_init_db425_19 : decode cJ0_init_db425 19 = .ok (.ifCond .eq 22, 3) := by decide +kernel
theorem dJ0_init_db425_22 : decode cJ0_init_db425 22 = .ok (.aload_n 0, 1) := by decide +kernel
theorem dJ0_init_db425_23 : decode cJ0_init_db425 23 = .ok (.iconst 0, 1) := by decide +kernel
theorem dJ0_init_db425_24 : decode cJ0_init_db425 24 = .ok (.putfield 15, 3) := by decide +kernel
theorem dJ0_init_db425_27 : decode cJ0_init_db425 27 = .ok (.aload_n 0, 1) := by decide +kernel
theorem dJ0_init_db425_28 : decode cJ0_init_db425 28 = .ok (.aload_n 3, 1) := by decide +kernel
theorem dJ0_init_db425_29 : decode cJ0_init_db425 29 = .ok (.iconst 0, 1) := by decide +kernel
theorem dJ0_init_db425_30 : decode cJ0_init_db425 30 = .ok (.iload 4, 2) := by decide +kernel
theorem dJ0_init_db425_32 : decode cJ0_init_db425 32 = .ok (.invokestatic 54, 3) := by decide +kernel
theorem dJ0_init_db425_35 : decode cJ0_init_db425 35 = .ok (.putfield 9, 3) := by decide +kernel
theorem dJ0_init_db425_38 : decode cJ0_init_db425 38 = .ok (.goto 59, 3) := by decide +kernel
theorem dJ0_init_db425_41 : decode cJ0_init_db425 41 = .ok (.getstatic 38, 3) := by decide +kernel
theorem dJ0_init_db425_44 : decode cJ0_init_db425 44 = .ok (.ifCond .eq 35, 3) := by decide +kernel
theorem dJ0_init_db425_47 : decode cJ0_init_db425 47 = .ok (.aload_n 1, 1) := by decide +kernel
theorem dJ0_init_db425_48 : decode cJ0_init_db425 48 = .ok (.getfield 1048, 3) := by decide +kernel
theorem dJ0_init_db425_51 : decode cJ0_init_db425 51 = .ok (.ifCond .eq 28, 3) := by decide +kernel
theorem dJ0_init_db425_54 : decode cJ0_init_db425 54 = .ok (.aload_n 0, 1) := by decide +kernel
theorem dJ0_init_db425_55 : decode cJ0_init_db425 55 = .ok (.aload_n 3, 1) := by decide +kernel
theorem dJ0_init_db425_56 : decode cJ0_init_db425 56 = .ok (.iconst 0, 1) := by decide +kernel
theorem dJ0_init_db425_57 : decode cJ0_init_db425 57 = .ok (.iload 4, 2) := by decide +kernel
theorem dJ0_init_db425_59 : decode cJ0_init_db425 59 = .ok (.invokestatic 1051, 3) := by decide +kernel
theorem dJ0_init_db425_62 : decode cJ0_init_db425 62 = .ok (.putfield 9, 3) := by decide +kernel
theorem dJ0_init_db425_65 : decode cJ0_init_db425 65 = .ok (.aload_n 0, 1) := by decide +kernel
theorem dJ0_init_db425_66 : decode cJ0_init_db425 66 = .ok (.aload_n 0, 1) := by decide +kernel
theorem dJ0_init_db425_67 : decode cJ0_init_db425 67 = .ok (.getfield 9, 3) := by decide +kernel
theorem dJ0_init_db425_70 : decode cJ0_init_db425 70 = .ok (.iload 4, 2) := by decide +kernel
theorem dJ0_init_db425_72 : decode cJ0_init_db425 72 = .ok (.invokestatic 47, 3) := by decide +kernel
theorem dJ0_init_db425_75 : decode cJ0_init_db425 75 = .ok (.putfield 15, 3) := by decide +kernel
theorem dJ0_init_db425_78 : decode cJ0_init_db425 78 = .ok (.return_, 1) := by decide +kernel
theorem dJ0_init_db425_79 : decode cJ0_init_db425 79 = .ok (.aload_n 0, 1) := by decide +kernel
theorem dJ0_init_db425_80 : decode cJ0_init_db425 80 = .ok (.iconst 1, 1) := by decide +kernel
theorem dJ0_init_db425_81 : decode cJ0_init_db425 81 = .ok (.putfield 15, 3) := by decide +kernel
theorem dJ0_init_db425_84 : decode cJ0_init_db425 84 = .ok (.aload_n 0, 1) := by decide +kernel
theorem dJ0_init_db425_85 : decode cJ0_init_db425 85 = .ok (.aload_n 3, 1) := by decide +kernel
theorem dJ0_init_db425_86 : decode cJ0_init_db425 86 = .ok (.iconst 0, 1) := by decide +kernel
theorem dJ0_init_db425_87 : decode cJ0_init_db425 87 = .ok (.iload 4, 2) := by decide +kernel
theorem dJ0_init_db425_89 : decode cJ0_init_db425 89 = .ok (.iconst 1, 1) := by decide +kernel
theorem dJ0_init_db425_90 : decode cJ0_init_db425 90 = .ok (.ishl, 1) := by decide +kernel
theorem dJ0_init_db425_91 : decode cJ0_init_db425 91 = .ok (.invokestatic 54, 3) := by decide +kernel
theorem dJ0_init_db425_94 : decode cJ0_init_db425 94 = .ok (.putfield 9, 3) := by decide +kernel
theorem dJ0_init_db425_97 : decode cJ0_init_db425 97 = .ok (.return_, 1) := by decide +kernel
theorem dJ0_coder_7d493_0 : decode cJ0_coder_7d493 0 = .ok (.getstatic 38, 3) := by decide +kernel
theorem dJ0_coder_7d493_3 : decode cJ0_coder_7d493 3 = .ok (.ifCond .eq 10, 3) := by decide +kernel
theorem dJ0_coder_7d493_6 : decode cJ0_coder_7d493 6 = .ok (.aload_n 0, 1) := by decide +kernel
theorem dJ0_coder_7d493_7 : decode cJ0_coder_7d493 7 = .ok (.getfield 15, 3) := by decide +kernel
theorem dJ0_coder_7d493_10 : decode cJ0_coder_7d493 10 = .ok (.goto 4, 3) := by decide +kernel
theorem dJ0_coder_7d493_13 : decode cJ0_coder_7d493 13 = .ok (.iconst 1, 1) := by decide +kernel
theorem dJ0_coder_7d493_14 : decode cJ0_coder_7d493 14 = .ok (.ireturn, 1) := by decide +kernel
theorem dJ0_isLatin1_aae02_0 : decode cJ0_isLatin1_aae02 0 = .ok (.getstatic 38, 3) := by decide +kernel
theorem dJ0_isLatin1_aae02_3 : decode cJ0_isLatin1_aae02 3 = .ok (.ifCond .eq 14, 3) := by decide +kernel
theorem dJ0_isLatin1_aae02_6 : decode cJ0_isLatin1_aae02 6 = .ok (.aload_n 0, 1) := by decide +kernel
theorem dJ0_isLatin1_aae02_7 : decode cJ0_isLatin1_aae02 7 = .ok (.getfield 15, 3) := by decide +kernel
theorem dJ0_isLatin1_aae02_10 : decode cJ0_isLatin1_aae02 10 = .ok (.ifCond .ne 7, 3) := by decide +kernel
theorem dJ0_isLatin1_aae02_13 : decode cJ0_isLatin1_aae02 13 = .ok (.iconst 1, 1) := by decide +kernel
theorem dJ0_isLatin1_aae02_14 : decode cJ0_isLatin1_aae02 14 = .ok (.goto 4, 3) := by decide +kernel
theorem dJ0_isLatin1_aae02_17 : decode cJ0_isLatin1_aae02 17 = .ok (.iconst 0, 1) := by decide +kernel
theorem dJ0_isLatin1_aae02_18 : decode cJ0_isLatin1_aae02 18 = .ok (.ireturn, 1) := by decide +kernel
set_option maxRecDepth 20000 in
theorem ggJ0_checkIndex_df160_J3_checkIndex_8e157 : GoodIn wsJ0_checkIndex_df160 wsJ3_checkIndex_8e157 := goodIn_r _ [5] (by decide +kernel) (by decide +kernel)
set_option maxRecDepth 20000 in
theorem gJ0_checkIndex_df160_J3_checkIndex_8e157 : GoodIn wsJ0_checkIndex_df160 (va_wsS RJ0 1059 yJ3_checkIndex_8e157 wsJ3_checkIndex_8e157) := goodIn_app (goodIn_of _ (by decide +kernel)) ggJ0_checkIndex_df160_J3_checkIndex_8e157
theorem dJ0_checkIndex_df160_0 : decode cJ0_checkIndex_df160 0 = .ok (.iload_n 0, 1) := by decide +kernel
theorem dJ0_checkIndex_df160_1 : decode cJ0_checkIndex_df160 1 = .ok (.iload_n 1, 1) := by decide +kernel
theorem dJ0_checkIndex_df160_2 : decode cJ0_checkIndex_df160 2 = .ok (.getstatic 1053, 3) := by decide +kernel
theorem dJ0_checkIndex_df160_5 : decode cJ0_checkIndex_df160 5 = .ok (.invokestatic 1059, 3) := by decide +kernel
theorem dJ0_checkIndex_df160_8 : decode cJ0_checkIndex_df160 8 = .ok (.pop, 1) := by decide +kernel
theorem dJ0_checkIndex_df160_9 : decode cJ0_checkIndex_df160 9 = .ok (.return_, 1) := by decide +kernel
set_option maxRecDepth 20000 in
theorem ggJ0_checkBoundsOffCount_cabcc_J3_checkFromIndexSize_8c36e : GoodIn wsJ0_checkBoundsOffCount_cabcc wsJ3_checkFromIndexSize_8c36e := goodIn_r _ [5] (by decide +kernel) (by decide +kernel)
set_option maxRecDepth 20000 in
theorem gJ0_checkBoundsOffCount_cabcc_J3_checkFromIndexSize_8c36e : GoodIn wsJ0_checkBoundsOffCount_cabcc (va_wsS RJ0 1065 yJ3_checkFromIndexSize_8c36e wsJ3_checkFromIndexSize_8c36e) := goodIn_app (goodIn_of _ (by decide +kernel)) ggJ0_checkBoundsOffCount_cabcc_J3_checkFromIndexSize_8c36e
theorem dJ0_checkBoundsOffCount_cabcc_0 : decode cJ0_checkBoundsOffCount_cabcc 0 = .ok (.iload_n 0, 1) := by decide +kernel
theorem dJ0_checkBoundsOffCount_cabcc_1 : decode cJ0_checkBoundsOffCount_cabcc 1 = .ok (.iload_n 1, 1) := by decide +kernel
theorem dJ0_checkBoundsOffCount_cabcc_2 : decode cJ0_checkBoundsOffCount_cabcc 2 = .ok (.iload_n 2, 1) := by decide +kernel
theorem dJ0_checkBoundsOffCount_cabcc_3 : decode cJ0_checkBoundsOffCount_cabcc 3 = .ok (.getstatic 1053, 3) := by decide +kernel
theorem dJ0_checkBoundsOffCount_cabcc_6 : decode cJ0_checkBoundsOffCount_cabcc 6 = .ok (.invokestatic 1065, 3) := by decide +kernel
theorem dJ0_checkBoundsOffCount_cabcc_9 : decode cJ0_checkBoundsOffCount_cabcc 9 = .ok (.ireturn, 1) := by decide +kernel
set_option maxRecDepth 20000 in
theorem ggJ0_checkBoundsBeginEnd_23922_J3_checkFromToIndex_8c36e : GoodIn wsJ0_checkBoundsBeginEnd_23922 wsJ3_checkFromToIndex_8c36e := goodIn_r _ [5] (by decide +kernel) (by decide +kernel)
set_option maxRecDepth 20000 in
theorem gJ0_checkBoundsBeginEnd_23922_J3_checkFromToIndex_8c36e : GoodIn wsJ0_checkBoundsBeginEnd_23922 (va_wsS RJ0 1062 yJ3_checkFromToIndex_8c36e wsJ3_checkFromToIndex_8c36e) := goodIn_app (goodIn_of _ (by decide +kernel)) ggJ0_checkBoundsBeginEnd_23922_J3_checkFromToIndex_8c36e
theorem dJ0_checkBoundsBeginEnd_23922_0 : decode cJ0_checkBoundsBeginEnd_23922 0 = .ok (.iload_n 0, 1) := by decide +kernel
theorem dJ0_checkBoundsBeginEnd_23922_1 : decode cJ0_checkBoundsBeginEnd_23922 1 = .ok (.iload_n 1, 1) := by decide +kernel
theorem dJ0_checkBoundsBeginEnd_23922_2 : decode cJ0_checkBoundsBeginEnd_23922 2 = .ok (.iload_n 2, 1) := by decide +kernel
theorem dJ0_checkBoundsBeginEnd_23922_3 : decode cJ0_checkBoundsBeginEnd_23922 3 = .ok (.getstatic 1053, 3) := by decide +kernel
theorem dJ0_checkBoundsBeginEnd_23922_6 : decode cJ0_checkBoundsBeginEnd_23922 6 = .ok (.invokestatic 1062, 3) := by decide +kernel
theorem dJ0_checkBoundsBeginEnd_23922_9 : decode cJ0_checkBoundsBeginEnd_23922 9 = .ok (.pop, 1) := by decide +kernel
theorem dJ0_checkBoundsBeginEnd_23922_10 : decode cJ0_checkBoundsBeginEnd_23922 10 = .ok (.return_, 1) := by decide +kernel
set_option maxRecDepth 20000 in
theorem ggJ4_init_da8c8_J5_init_d00df : GoodIn wsJ4_init_da8c8 wsJ5_init_d00df := goodIn_r _ [4, 5, 6, 7, 8, 9, 10, 11, 12, 13, 14, 15, 16, 17, 18, 19, 20, 21, 22, 23] (by decide +kernel) (by decide +kernel)
set_option maxRecDepth 20000 in
theorem gJ4_init_da8c8_J5_init_d00df : GoodIn wsJ4_init_da8c8 (wsJ5_init_d00df) := ggJ4_init_da8c8_J5_init_d00df
theorem dJ4_init_da8c8_0 : decode cJ4_init_da8c8 0 = .ok (.aload_n 0, 1) := by decide +kernel
theorem dJ4_init_da8c8_1 : decode cJ4_init_da8c8 1 = .ok (.bipush 16, 2) := by decide +kernel
theorem dJ4_init_da8c8_3 : decode cJ4_init_da8c8 3 = .ok (.invokespecial 1, 3) := by decide +kernel
theorem dJ4_init_da8c8_6 : decode cJ4_init_da8c8 6 = .ok (.return_, 1) := by decide +kernel
set_option maxRecDepth 20000 in
theorem ggJ4_append_15ec4_J5_append_cf1ce : GoodIn wsJ4_append_15ec4 wsJ5_append_cf1ce := goodIn_r _ [6, 7, 8, 9, 10, 11, 5, 12, 13, 14, 15, 16, 17, 18, 19, 20, 21, 22, 23, 24, 25, 26, 27, 28, 29, 30, 31, 32, 33, 34, 35, 36, 37, 38, 39, 40, 41, 42, 43, 44, 45, 46, 47, 48, 49, 50, 51, 52, 53, 54, 55, 56, 57, 58, 59, 60, 61, 62, 63, 64, 65, 66, 67, 68, 69, 70, 71, 72, 73, 74, 75, 76, 77, 78, 79, 80, 81, 82, 83, 84, 85, 86, 87, 88, 89, 90, 91, 92, 93, 94, 95, 96, 97, 98, 99, 100, 101, 102, 103, 104, 105, 106, 107, 108, 109, 110, 111, 112, 113, 114, 115, 116, 117, 118, 119, 120, 121, 122, 123, 124, 125, 126, 127, 128, 129, 130, 131, 132, 133, 134, 135, 136, 137, 138, 139, 140, 141, 142, 143, 144, 145, 146, 147, 148, 149, 150] (by decide +kernel) (by decide +kernel)
set_option maxRecDepth 20000 in
theorem gJ4_append_15ec4_J5_append_cf1ce_s29 : GoodIn wsJ4_append_15ec4 (va_wsSU RJ4 29 yJ5_append_cf1ce wsJ5_append_cf1ce) := goodIn_app (goodIn_of _ (by decide +kernel)) ggJ4_append_15ec4_J5_append_cf1ce
theorem dJ4_append_15ec4_0 : decode cJ4_append_15ec4 0 = .ok (.aload_n 0, 1) := by decide +kernel
theorem dJ4_append_15ec4_1 : decode cJ4_append_15ec4 1 = .ok (.aload_n 1, 1) := by decide +kernel
theorem dJ4_append_15ec4_2 : decode cJ4_append_15ec4 2 = .ok (.invokespecial 29, 3) := by decide +kernel
theorem dJ4_append_15ec4_5 : decode cJ4_append_15ec4 5 = .ok (.pop, 1) := by decide +kernel
theorem dJ4_append_15ec4_6 : decode cJ4_append_15ec4 6 = .ok (.aload_n 0, 1) := by decide +kernel
theorem dJ4_append_15ec4_7 : decode cJ4_append_15ec4 7 = .ok (.areturn, 1) := by decide +kernel
set_option maxRecDepth 20000 in
theorem ggJ4_append_cf468_J5_append_3fe6f : GoodIn wsJ4_append_cf468 wsJ5_append_3fe6f := goodIn_r _ [6, 7, 8, 9, 10, 11, 12, 5, 13, 14, 15, 16, 17, 18, 19, 20, 21, 22, 23, 24, 25, 26, 27, 28, 29, 30, 31, 32, 33, 34, 35, 36, 37, 38, 39, 40, 41, 42, 43, 44, 45, 46, 47, 48, 49, 50, 51, 52, 53, 54, 55, 56, 57, 58, 59, 60, 61, 62, 63, 64, 65, 66, 67, 68, 69, 70, 71, 72, 73, 74, 75, 76, 77, 78, 79, 80, 81, 82, 83, 84, 85, 86, 87, 88, 89, 90, 91, 92, 93, 94, 95, 96, 97, 98, 99, 100, 101, 102, 103, 104, 105, 106, 107, 108, 109, 110, 111, 112, 113, 114, 115, 116] (by decide +kernel) (by decide +kernel)
set_option maxRecDepth 20000 in
theorem gJ4_append_cf468_J5_append_3fe6f_s50 : GoodIn wsJ4_append_cf468 (va_wsSU RJ4 50 yJ5_append_3fe6f wsJ5_append_3fe6f) := goodIn_app (goodIn_of _ (by decide +kernel)) ggJ4_append_cf468_J5_append_3fe6f
theorem dJ4_append_cf468_0 : decode cJ4_append_cf468 0 = .ok (.aload_n 0, 1) := by decide +kernel
theorem dJ4_append_cf468_1 : decode cJ4_append_cf468 1 = .ok (.iload_n 1, 1) := by decide +kernel
theorem dJ4_append_cf468_2 : decode cJ4_append_cf468 2 = .ok (.invokespecial 50, 3) := by decide +kernel
theorem dJ4_append_cf468_5 : decode cJ4_append_cf468 5 = .ok (.pop, 1) := by decide +kernel
theorem dJ4_append_cf468_6 : decode cJ4_append_cf468 6 = .ok (.aload_n 0, 1) := by decide +kernel
theorem dJ4_append_cf468_7 : decode cJ4_append_cf468 7 = .ok (.areturn, 1) := by decide +kernel
set_option maxRecDepth 20000 in
theorem ggJ4_append_bf812_J5_append_c97b9 : GoodIn wsJ4_append_bf812 wsJ5_append_c97b9 := goodIn_r _ [6, 7, 8, 9, 10, 11, 12, 13, 14, 15, 16, 5, 17, 18, 19, 20, 21, 22, 23, 24, 25, 26, 27, 28, 29, 30, 31, 32, 33, 34, 35, 36, 37, 38, 39, 40, 41, 42, 43, 44, 45, 46, 47, 48, 49, 50, 51, 52, 53, 54, 55, 56, 57, 58, 59, 60, 61, 62, 63, 64, 65, 66, 67, 68, 69, 70, 71, 72, 73, 74, 75, 76, 77, 78, 79, 80, 81, 82, 83, 84, 85, 86, 87, 88, 89, 90, 91, 92, 93, 94, 95, 96, 97, 98, 99] (by decide +kernel) (by decide +kernel)
set_option maxRecDepth 20000 in
theorem gJ4_append_bf812_J5_append_c97b9_s53 : GoodIn wsJ4_append_bf812 (va_wsSU RJ4 53 yJ5_append_c97b9 wsJ5_append_c97b9) := goodIn_app (goodIn_of _ (by decide +kernel)) ggJ4_append_bf812_J5_append_c97b9
theorem dJ4_append_bf812_0 : decode cJ4_append_bf812 0 = .ok (.aload_n 0, 1) := by decide +kernel
theorem dJ4_append_bf812_1 : decode cJ4_append_bf812 1 = .ok (.iload_n 1, 1) := by decide +kernel
theorem dJ4_append_bf812_2 : decode cJ4_append_bf812 2 = .ok (.invokespecial 53, 3) := by decide +kernel
theorem dJ4_append_bf812_5 : decode cJ4_append_bf812 5 = .ok (.pop, 1) := by decide +kernel
theorem dJ4_append_bf812_6 : decode cJ4_append_bf812 6 = .ok (.aload_n 0, 1) := by decide +kernel
theorem dJ4_append_bf812_7 : decode cJ4_append_bf812 7 = .ok (.areturn, 1) := by decide +kernel
set_option maxRecDepth 20000 in
theorem ggJ4_toString_0e30d_J0_init_81219 : GoodIn wsJ4_toString_0e30d wsJ0_init_81219 := goodIn_r _ [6, 7, 8, 3, 9, 10, 11, 12, 13, 14, 15, 16, 17, 18, 19, 20, 21, 22, 23, 24, 25, 26, 27, 28, 29, 30, 31, 32, 33, 34, 35, 36, 37, 38, 39, 40, 41, 42, 43, 44, 45, 46, 47, 48, 49, 50, 51, 52, 53, 54, 55, 56, 57, 58, 59, 60, 61, 62, 63, 64, 65, 66, 67, 68, 69, 70, 71, 72, 73, 74, 75, 76, 77, 78, 79, 80, 81, 82, 83, 84, 85, 86, 87, 88, 89, 90, 91, 92, 93, 94, 95, 96, 97, 98, 99, 100, 101, 102, 103, 104, 105, 106, 107, 108, 109, 110, 111, 112] (by decide +kernel) (by decide +kernel)
set_option maxRecDepth 20000 in
theorem gJ4_toString_0e30d_J0_init_81219 : GoodIn wsJ4_toString_0e30d (wsJ0_init_81219) := ggJ4_toString_0e30d_J0_init_81219
theorem dJ4_toString_0e30d_0 : decode cJ4_toString_0e30d 0 = .ok (.new 18, 3) := by decide +kernel
theorem dJ4_toString_0e30d_3 : decode cJ4_toString_0e30d 3 = .ok (.dup, 1) := by decide +kernel
theorem dJ4_toString_0e30d_4 : decode cJ4_toString_0e30d 4 = .ok (.aload_n 0, 1) := by decide +kernel
theorem dJ4_toString_0e30d_5 : decode cJ4_toString_0e30d 5 = .ok (.invokespecial 137, 3) := by decide +kernel
theorem dJ4_toString_0e30d_8 : decode cJ4_toString_0e30d 8 = .ok (.areturn, 1) := by decide +kernel
set_option maxRecDepth 20000 in
theorem ggJ4_charAt_5068e_J5_charAt_5068e : GoodIn wsJ4_charAt_5068e wsJ5_charAt_5068e := goodIn_r _ [6, 7, 8, 9, 10, 11, 12, 13, 14, 15, 16, 17, 18, 19, 20, 21, 22, 23, 24, 25, 26, 27, 28, 29, 30, 31, 32, 33, 34, 35, 36] (by decide +kernel) (by decide +kernel)
set_option maxRecDepth 20000 in
theorem gJ4_charAt_5068e_J5_charAt_5068e_s329 : GoodIn wsJ4_charAt_5068e (va_wsSU RJ4 329 yJ5_charAt_5068e wsJ5_charAt_5068e) := goodIn_app (goodIn_of _ (by decide +kernel)) ggJ4_charAt_5068e_J5_charAt_5068e
theorem dJ4_charAt_5068e_0 : decode cJ4_charAt_5068e 0 = .ok (.aload_n 0, 1) := by decide +kernel
theorem dJ4_charAt_5068e_1 : decode cJ4_charAt_5068e 1 = .ok (.iload_n 1, 1) := by decide +kernel
theorem dJ4_charAt_5068e_2 : decode cJ4_charAt_5068e 2 = .ok (.invokespecial 329, 3) := by decide +kernel
theorem dJ4_charAt_5068e_5 : decode cJ4_charAt_5068e 5 = .ok (.ireturn, 1) := by decide +kernel
set_option maxRecDepth 20000 in
theorem ggJ4_setLength_d00df_J5_setLength_d00df : GoodIn wsJ4_setLength_d00df wsJ5_setLength_d00df := goodIn_r _ [6, 7, 8, 9, 10, 11, 12, 13, 14, 15, 16, 5, 17, 18, 19, 20, 21, 22, 23, 24, 25, 26, 27, 28, 29, 30, 31, 32, 33, 34, 35, 36, 37, 38, 39, 40, 41, 42, 43, 44, 45, 46, 47, 48, 49, 50, 51, 52, 53, 54, 55, 56, 57, 58, 59, 60, 61, 62, 63, 64, 65, 66, 67, 68, 69, 70, 71, 72, 73, 74, 75, 76, 77, 78, 79, 80, 81, 82, 83, 84, 85, 86, 87, 88, 89, 90, 91, 92, 93, 94, 95, 96, 97] (by decide +kernel) (by decide +kernel)
set_option maxRecDepth 20000 in
theorem gJ4_setLength_d00df_J5_setLength_d00df_s333 : GoodIn wsJ4_setLength_d00df (va_wsSU RJ4 333 yJ5_setLength_d00df wsJ5_setLength_d00df) := goodIn_app (goodIn_of _ (by decide +kernel)) ggJ4_setLength_d00df_J5_setLength_d00df
theorem dJ4_setLength_d00df_0 : decode cJ4_setLength_d00df 0 = .ok (.aload_n 0, 1) := by decide +kernel
theorem dJ4_setLength_d00df_1 : decode cJ4_setLength_d00df 1 = .ok (.iload_n 1, 1) := by decide +kernel
theorem dJ4_setLength_d00df_2 : decode cJ4_setLength_d00df 2 = .ok (.invokespecial 333, 3) := by decide +kernel
theorem dJ4_setLength_d00df_5 : decode cJ4_setLength_d00df 5 = .ok (.return_, 1) := by decide +kernel
set_option maxRecDepth 20000 in
theorem ggJ4_length_8abf5_J5_length_8abf5 : GoodIn wsJ4_length_8abf5 wsJ5_length_8abf5 := goodIn_r _ [6, 7, 8, 9, 10, 11] (by decide +kernel) (by decide +kernel)
set_option maxRecDepth 20000 in
theorem gJ4_length_8abf5_J5_length_8abf5_s343 : GoodIn wsJ4_length_8abf5 (va_wsSU RJ4 343 yJ5_length_8abf5 wsJ5_length_8abf5) := goodIn_app (goodIn_of _ (by decide +kernel)) ggJ4_length_8abf5_J5_length_8abf5
theorem dJ4_length_8abf5_0 : decode cJ4_length_8abf5 0 = .ok (.aload_n 0, 1) := by decide +kernel
theorem dJ4_length_8abf5_1 : decode cJ4_length_8abf5 1 = .ok (.invokespecial 343, 3) := by decide +kernel
theorem dJ4_length_8abf5_4 : decode cJ4_length_8abf5 4 = .ok (.ireturn, 1) := by decide +kernel
set_option maxRecDepth 20000 in
theorem ggJx7c733_init_d00df_J4_init_da8c8 : GoodIn wsJx7c733_init_d00df wsJ4_init_da8c8 := goodIn_r _ [6, 7, 8, 9, 10, 11, 12, 13, 14, 15, 16, 17, 18, 19, 20, 21, 22, 23, 24, 25, 236, 237, 238, 239] (by decide +kernel) (by decide +kernel)
set_option maxRecDepth 20000 in
theorem gJx7c733_init_d00df_J4_init_da8c8 : GoodIn wsJx7c733_init_d00df (wsJ4_init_da8c8) := ggJx7c733_init_d00df_J4_init_da8c8
set_option maxRecDepth 20000 in
theorem ggJx7c733_init_d00df_J4_append_15ec4 : GoodIn wsJx7c733_init_d00df wsJ4_append_15ec4 := goodIn_r _ [29, 30, 31, 32, 33, 9, 34, 35, 36, 37, 38, 39, 40, 16, 41, 42, 43, 44, 45, 17, 46, 47, 48, 49, 50, 51, 52, 53, 54, 55, 56, 57, 58, 59, 60, 61, 62, 63, 64, 65, 66, 67, 68, 69, 70, 71, 72, 73, 15, 74, 75, 76, 77, 78, 79, 80, 81, 82, 83, 84, 85, 14, 86, 87, 20, 88, 89, 90, 91, 92, 93, 94, 95, 96, 97, 98, 99, 100, 101, 102, 103, 104, 105, 106, 107, 108, 109, 110, 111, 112, 113, 114, 115, 116, 117, 118, 119, 120, 121, 122, 123, 124, 125, 126, 127, 128, 129, 130, 131, 132, 133, 134, 135, 136, 18, 19, 21, 22, 23, 24, 25, 137, 138, 139, 140, 141, 142, 143, 144, 145, 146, 147, 148, 149, 150, 151, 152, 153, 154, 155, 156, 157, 158, 236, 237, 238, 239, 240, 241, 242, 243] (by decide +kernel) (by decide +kernel)
set_option maxRecDepth 20000 in
theorem gJx7c733_init_d00df_J4_append_15ec4 : GoodIn wsJx7c733_init_d00df (wsV RJx7c733 15 RJ4 yJ4_append_15ec4 wsJ4_append_15ec4) := goodIn_app (goodIn_of _ (by decide +kernel)) ggJx7c733_init_d00df_J4_append_15ec4
set_option maxRecDepth 20000 in
theorem ggJx7c733_init_d00df_J4_append_bf812 : GoodIn wsJx7c733_init_d00df wsJ4_append_bf812 := goodIn_r _ [162, 163, 164, 32, 165, 9, 166, 35, 16, 167, 168, 169, 170, 41, 42, 43, 44, 45, 17, 46, 47, 48, 49, 50, 51, 52, 53, 54, 55, 56, 57, 58, 59, 60, 61, 62, 63, 64, 65, 66, 67, 68, 69, 70, 71, 72, 73, 15, 74, 75, 76, 77, 78, 79, 80, 81, 82, 83, 84, 85, 14, 171, 172, 173, 174, 175, 176, 177, 20, 178, 89, 90, 91, 92, 93, 94, 95, 96, 97, 98, 99, 100, 101, 102, 103, 104, 179, 180, 181, 182, 183, 105, 106, 107, 108, 109, 236, 237, 238, 239] (by decide +kernel) (by decide +kernel)
set_option maxRecDepth 20000 in
theorem gJx7c733_init_d00df_J4_append_bf812 : GoodIn wsJx7c733_init_d00df (wsV RJx7c733 19 RJ4 yJ4_append_bf812 wsJ4_append_bf812) := goodIn_app (goodIn_of _ (by decide +kernel)) ggJx7c733_init_d00df_J4_append_bf812
set_option maxRecDepth 20000 in
theorem ggJx7c733_init_d00df_J4_toString_0e30d : GoodIn wsJx7c733_init_d00df wsJ4_toString_0e30d := goodIn_r _ [187, 188, 189, 98, 190, 191, 192, 193, 194, 195, 196, 12, 13, 120, 114, 119, 197, 198, 199, 200, 201, 9, 202, 16, 203, 204, 205, 206, 207, 3, 208, 209, 32, 210, 211, 35, 212, 82, 83, 84, 85, 14, 17, 213, 214, 66, 215, 68, 69, 70, 71, 72, 73, 216, 217, 218, 15, 74, 75, 58, 76, 77, 78, 79, 80, 219, 220, 221, 222, 2, 223, 224, 20, 225, 226, 227, 228, 144, 145, 146, 93, 94, 95, 147, 148, 149, 100, 150, 151, 103, 152, 229, 230, 231, 89, 108, 109, 22, 23, 24, 25, 232, 233, 234, 235, 240, 241, 242, 243, 236, 237, 238, 239] (by decide +kernel) (by decide +kernel)
set_option maxRecDepth 20000 in
theorem gJx7c733_init_d00df_J4_toString_0e30d : GoodIn wsJx7c733_init_d00df (wsV RJx7c733 22 RJ4 yJ4_toString_0e30d wsJ4_toString_0e30d) := goodIn_app (goodIn_of _ (by decide +kernel)) ggJx7c733_init_d00df_J4_toString_0e30d
theorem dJx7c733_init_d00df_0 : decode cJx7c733_init_d00df 0 = .ok (.aload_n 0, 1) := by decide +kernel
theorem dJx7c733_init_d00df_1 : decode cJx7c733_init_d00df 1 = .ok (.new 10, 3) := by decide +kernel
theorem dJx7c733_init_d00df_4 : decode cJx7c733_init_d00df 4 = .ok (.dup, 1) := by decide +kernel
theorem dJx7c733_init_d00df_5 : decode cJx7c733_init_d00df 5 = .ok (.invokespecial 12, 3) := by decide +kernel
theorem dJx7c733_init_d00df_8 : decode cJx7c733_init_d00df 8 = .ok (.ldc 13, 2) := by decide +kernel
theorem dJx7c733_init_d00df_10 : decode cJx7c733_init_d00df 10 = .ok (.invokevirtual 15, 3) := by decide +kernel
theorem dJx7c733_init_d00df_13 : decode cJx7c733_init_d00df 13 = .ok (.iload_n 1, 1) := by decide +kernel
theorem dJx7c733_init_d00df_14 : decode cJx7c733_init_d00df 14 = .ok (.invokevirtual 19, 3) := by decide +kernel
theorem dJx7c733_init_d00df_17 : decode cJx7c733_init_d00df 17 = .ok (.invokevirtual 22, 3) := by decide +kernel
theorem dJx7c733_init_d00df_20 : decode cJx7c733_init_d00df 20 = .ok (.invokespecial 7, 3) := by decide +kernel
theorem dJx7c733_init_d00df_23 : decode cJx7c733_init_d00df 23 = .ok (.return_, 1) := by decide +kernel
set_option maxRecDepth 20000 in
theorem ggJ1_charAt_3b067_J0_checkIndex_df160 : GoodIn wsJ1_charAt_3b067 wsJ0_checkIndex_df160 := goodIn_r _ [4, 5, 6, 7, 8, 9] (by decide +kernel) (by decide +kernel)
set_option maxRecDepth 20000 in
theorem gJ1_charAt_3b067_J0_checkIndex_df160 : GoodIn wsJ1_charAt_3b067 (va_wsS RJ1 9 yJ0_checkIndex_df160 wsJ0_checkIndex_df160) := goodIn_app (goodIn_of _ (by decide +kernel)) ggJ1_charAt_3b067_J0_checkIndex_df160
theorem dJ1_charAt_3b067_0 : decode cJ1_charAt_3b067 0 = .ok (.iload_n 1, 1) := by decide +kernel
theorem dJ1_charAt_3b067_1 : decode cJ1_charAt_3b067 1 = .ok (.aload_n 0, 1) := by decide +kernel
theorem dJ1_charAt_3b067_2 : decode cJ1_charAt_3b067 2 = .ok (.arraylength, 1) := by decide +kernel
theorem dJ1_charAt_3b067_3 : decode cJ1_charAt_3b067 3 = .ok (.invokestatic 9, 3) := by decide +kernel
theorem dJ1_charAt_3b067_6 : decode cJ1_charAt_3b067 6 = .ok (.aload_n 0, 1) := by decide +kernel
theorem dJ1_charAt_3b067_7 : decode cJ1_charAt_3b067 7 = .ok (.iload_n 1, 1) := by decide +kernel
theorem dJ1_charAt_3b067_8 : decode cJ1_charAt_3b067 8 = .ok (.baload, 1) := by decide +kernel
theorem dJ1_charAt_3b067_9 : decode cJ1_charAt_3b067 9 = .ok (.sipush 255, 3) := by decide +kernel
theorem dJ1_charAt_3b067_12 : decode cJ1_charAt_3b067 12 = .ok (.iand, 1) := by decide +kernel
theorem dJ1_charAt_3b067_13 : decode cJ1_charAt_3b067 13 = .ok (.i2c, 1) := by decide +kernel
theorem dJ1_charAt_3b067_14 : decode cJ1_charAt_3b067 14 = .ok (.ireturn, 1) := by decide +kernel
theorem dJ1_canEncode_fc78d_0 : decode cJ1_canEncode_fc78d 0 = .ok (.iload_n 0, 1) := by decide +kernel
theorem dJ1_canEncode_fc78d_1 : decode cJ1_canEncode_fc78d 1 = .ok (.sipush 255, 3) := by decide +kernel
theorem dJ1_canEncode_fc78d_4 : decode cJ1_canEncode_fc78d 4 = .ok (.if_icmp .gt 7, 3) := by decide +kernel
theorem dJ1_canEncode_fc78d_7 : decode cJ1_canEncode_fc78d 7 = .ok (.iconst 1, 1) := by decide +kernel
theorem dJ1_canEncode_fc78d_8 : decode cJ1_canEncode_fc78d 8 = .ok (.goto 4, 3) := by decide +kernel
theorem dJ1_canEncode_fc78d_11 : decode cJ1_canEncode_fc78d 11 = .ok (.iconst 0, 1) := by decide +kernel
theorem dJ1_canEncode_fc78d_12 : decode cJ1_canEncode_fc78d 12 = .ok (.ireturn, 1) := by decide +kernel
set_option maxRecDepth 20000 in
theorem ggJ1_fillNull_b72d1_J7_fill_eb02e : GoodIn wsJ1_fillNull_b72d1 wsJ7_fill_eb02e := goodIn_r _ [4, 5, 6, 3, 7, 8, 9, 10, 11, 12, 13, 14, 15, 16, 17, 18, 19, 20, 21, 22, 23] (by decide +kernel) (by decide +kernel)
set_option maxRecDepth 20000 in
theorem gJ1_fillNull_b72d1_J7_fill_eb02e : GoodIn wsJ1_fillNull_b72d1 (va_wsS RJ1 236 yJ7_fill_eb02e wsJ7_fill_eb02e) := goodIn_app (goodIn_of _ (by decide +kernel)) ggJ1_fillNull_b72d1_J7_fill_eb02e
theorem dJ1_fillNull_b72d1_0 : decode cJ1_fillNull_b72d1 0 = .ok (.aload_n 0, 1) := by decide +kernel
theorem dJ1_fillNull_b72d1_1 : decode cJ1_fillNull_b72d1 1 = .ok (.iload_n 1, 1) := by decide +kernel
theorem dJ1_fillNull_b72d1_2 : decode cJ1_fillNull_b72d1 2 = .ok (.iload_n 2, 1) := by decide +kernel
theorem dJ1_fillNull_b72d1_3 : decode cJ1_fillNull_b72d1 3 = .ok (.iconst 0, 1) := by decide +kernel
theorem dJ1_fillNull_b72d1_4 : decode cJ1_fillNull_b72d1 4 = .ok (.invokestatic 236, 3) := by decide +kernel
theorem dJ1_fillNull_b72d1_7 : decode cJ1_fillNull_b72d1 7 = .ok (.return_, 1) := by decide +kernel
set_option maxRecDepth 20000 in
theorem ggJ1_inflate_0e8fd_J2_inflate_0e8fd : GoodIn wsJ1_inflate_0e8fd wsJ2_inflate_0e8fd := goodIn_r _ [4, 5, 6, 3, 7, 8, 9, 10, 11, 12, 13, 14, 15, 16, 17, 18, 19, 20, 21, 22, 23, 24, 25] (by decide +kernel) (by decide +kernel)
set_option maxRecDepth 20000 in
theorem gJ1_inflate_0e8fd_J2_inflate_0e8fd : GoodIn wsJ1_inflate_0e8fd (va_wsS RJ1 240 yJ2_inflate_0e8fd wsJ2_inflate_0e8fd) := goodIn_app (goodIn_of _ (by decide +kernel)) ggJ1_inflate_0e8fd_J2_inflate_0e8fd
theorem dJ1_inflate_0e8fd_0 : decode cJ1_inflate_0e8fd 0 = .ok (.aload_n 0, 1) := by decide +kernel
theorem dJ1_inflate_0e8fd_1 : decode cJ1_inflate_0e8fd 1 = .ok (.iload_n 1, 1) := by decide +kernel
theorem dJ1_inflate_0e8fd_2 : decode cJ1_inflate_0e8fd 2 = .ok (.aload_n 2, 1) := by decide +kernel
theorem dJ1_inflate_0e8fd_3 : decode cJ1_inflate_0e8fd 3 = .ok (.iload_n 3, 1) := by decide +kernel
theorem dJ1_inflate_0e8fd_4 : decode cJ1_inflate_0e8fd 4 = .ok (.iload 4, 2) := by decide +kernel
theorem dJ1_inflate_0e8fd_6 : decode cJ1_inflate_0e8fd 6 = .ok (.invokestatic 240, 3) := by decide +kernel
theorem dJ1_inflate_0e8fd_9 : decode cJ1_inflate_0e8fd 9 = .ok (.return_, 1) := by decide +kernel
set_option maxRecDepth 20000 in
theorem ggJ2_newBytesFor_77867_J2_newBytesLength_0f7a4 : GoodIn wsJ2_newBytesFor_77867 wsJ2_newBytesLength_0f7a4 := goodIn_r _ [5, 6] (by decide +kernel) (by decide +kernel)
set_option maxRecDepth 20000 in
theorem gJ2_newBytesFor_77867_J2_newBytesLength_0f7a4 : GoodIn wsJ2_newBytesFor_77867 (va_wsS RJ2 11 yJ2_newBytesLength_0f7a4 wsJ2_newBytesLength_0f7a4) := goodIn_app (goodIn_of _ (by decide +kernel)) ggJ2_newBytesFor_77867_J2_newBytesLength_0f7a4
theorem dJ2_newBytesFor_77867_0 : decode cJ2_newBytesFor_77867 0 = .ok (.iload_n 0, 1) := by decide +kernel
theorem dJ2_newBytesFor_77867_1 : decode cJ2_newBytesFor_77867 1 = .ok (.invokestatic 11, 3) := by decide +kernel
theorem dJ2_newBytesFor_77867_4 : decode cJ2_newBytesFor_77867 4 = .ok (.newarray .byte, 2) := by decide +kernel
theorem dJ2_newBytesFor_77867_6 : decode cJ2_newBytesFor_77867 6 = .ok (.areturn, 1) := by decide +kernel
theorem dJ2_newBytesLength_0f7a4_0 : decode cJ2_newBytesLength_0f7a4 0 = .ok (.iload_n 0, 1) := by decide +kernel
theorem dJ2_newBytesLength_0f7a4_1 : decode cJ2_newBytesLength_0f7a4 1 = .ok (.ifCond .ge 11, 3) := by decide +kernel
theorem dJ2_newBytesLength_0f7a4_4 : decode cJ2_newBytesLength_0f7a4 4 = .ok (.new 17, 3) := by decide +kernel
theorem dJ2_newBytesLength_0f7a4_7 : decode cJ2_newBytesLength_0f7a4 7 = .ok (.dup, 1) := by decide +kernel
theorem dJ2_newBytesLength_0f7a4_8 : decode cJ2_newBytesLength_0f7a4 8 = .ok (.invokespecial 19, 3) := by decide +kernel
theorem dJ2_newBytesLength_0f7a4_11 : decode cJ2_newBytesLength_0f7a4 11 = .ok (.athrow, 1) := by decide +kernel
theorem dJ2_newBytesLength_0f7a4_12 : decode cJ2_newBytesLength_0f7a4 12 = .ok (.iload_n 0, 1) := by decide +kernel
theorem dJ2_newBytesLength_0f7a4_13 : decode cJ2_newBytesLength_0f7a4 13 = .ok (.ldc 20, 2) := by decide +kernel
theorem dJ2_newBytesLength_0f7a4_15 : decode cJ2_newBytesLength_0f7a4 15 = .ok (.if_icmp .lt 40, 3) := by decide +kernel
theorem dJ2_newBytesLength_0f7a4_18 : decode cJ2_newBytesLength_0f7a4 18 = .ok (.new 21, 3) := by decide +kernel
theorem dJ2_newBytesLength_0f7a4_21 : decode cJ2_newBytesLength_0f7a4 21 = .ok (.dup, 1) := by decide +kernel
theorem dJ2_newBytesLength_0f7a4_22 : decode cJ2_newBytesLength_0f7a4 22 = .ok (.new 23, 3) := by decide +kernel
theorem dJ2_newBytesLength_0f7a4_25 : decode cJ2_newBytesLength_0f7a4 25 = .ok (.dup, 1) := by decide +kernel
theorem dJ2_newBytesLength_0f7a4_26 : decode cJ2_newBytesLength_0f7a4 26 = .ok (.invokespecial 25, 3) := by decide +kernel
theorem dJ2_newBytesLength_0f7a4_29 : decode cJ2_newBytesLength_0f7a4 29 = .ok (.ldc 26, 2) := by decide +kernel
theorem dJ2_newBytesLength_0f7a4_31 : decode cJ2_newBytesLength_0f7a4 31 = .ok (.invokevirtual 28, 3) := by decide +kernel
theorem dJ2_newBytesLength_0f7a4_34 : decode cJ2_newBytesLength_0f7a4 34 = .ok (.iload_n 0, 1) := by decide +kernel
theorem dJ2_newBytesLength_0f7a4_35 : decode cJ2_newBytesLength_0f7a4 35 = .ok (.invokevirtual 32, 3) := by decide +kernel
theorem dJ2_newBytesLength_0f7a4_38 : decode cJ2_newBytesLength_0f7a4 38 = .ok (.ldc 35, 2) := by decide +kernel
theorem dJ2_newBytesLength_0f7a4_40 : decode cJ2_newBytesLength_0f7a4 40 = .ok (.invokevirtual 28, 3) := by decide +kernel
theorem dJ2_newBytesLength_0f7a4_43 : decode cJ2_newBytesLength_0f7a4 43 = .ok (.ldc 20, 2) := by decide +kernel
theorem dJ2_newBytesLength_0f7a4_45 : decode cJ2_newBytesLength_0f7a4 45 = .ok (.invokevirtual 32, 3) := by decide +kernel
theorem dJ2_newBytesLength_0f7a4_48 : decode cJ2_newBytesLength_0f7a4 48 = .ok (.invokevirtual 37, 3) := by decide +kernel
theorem dJ2_newBytesLength_0f7a4_51 : decode cJ2_newBytesLength_0f7a4 51 = .ok (.invokespecial 41, 3) := by decide +kernel
theorem dJ2_newBytesLength_0f7a4_54 : decode cJ2_newBytesLength_0f7a4 54 = .ok (.athrow, 1) := by decide +kernel
theorem dJ2_newBytesLength_0f7a4_55 : decode cJ2_newBytesLength_0f7a4 55 = .ok (.iload_n 0, 1) := by decide +kernel
theorem dJ2_newBytesLength_0f7a4_56 : decode cJ2_newBytesLength_0f7a4 56 = .ok (.iconst 1, 1) := by decide +kernel
theorem dJ2_newBytesLength_0f7a4_57 : decode cJ2_newBytesLength_0f7a4 57 = .ok (.ishl, 1) := by decide +kernel
theorem dJ2_newBytesLength_0f7a4_58 : decode cJ2_newBytesLength_0f7a4 58 = .ok (.ireturn, 1) := by decide +kernel
set_option maxRecDepth 20000 in
theorem ggJ2_putChar_b72d1_J2_length_9d52b : GoodIn wsJ2_putChar_b72d1 wsJ2_length_9d52b := goodIn_r _ [7] (by decide +kernel) (by decide +kernel)
set_option maxRecDepth 20000 in
theorem gJ2_putChar_b72d1_J2_length_9d52b : GoodIn wsJ2_putChar_b72d1 (va_wsS RJ2 48 yJ2_length_9d52b wsJ2_length_9d52b) := goodIn_app (goodIn_of _ (by decide +kernel)) ggJ2_putChar_b72d1_J2_length_9d52b
theorem dJ2_putChar_b72d1_0 : decode cJ2_putChar_b72d1 0 = .ok (.getstatic 44, 3) := by decide +kernel
theorem dJ2_putChar_b72d1_3 : decode cJ2_putChar_b72d1 3 = .ok (.ifCond .ne 25, 3) := by decide +kernel
theorem dJ2_putChar_b72d1_6 : decode cJ2_putChar_b72d1 6 = .ok (.iload_n 1, 1) := by decide +kernel
theorem dJ2_putChar_b72d1_7 : decode cJ2_putChar_b72d1 7 = .ok (.ifCond .lt 11, 3) := by decide +kernel
theorem dJ2_putChar_b72d1_10 : decode cJ2_putChar_b72d1 10 = .ok (.iload_n 1, 1) := by decide +kernel
theorem dJ2_putChar_b72d1_11 : decode cJ2_putChar_b72d1 11 = .ok (.aload_n 0, 1) := by decide +kernel
theorem dJ2_putChar_b72d1_12 : decode cJ2_putChar_b72d1 12 = .ok (.invokestatic 48, 3) := by decide +kernel
theorem dJ2_putChar_b72d1_15 : decode cJ2_putChar_b72d1 15 = .ok (.if_icmp .lt 13, 3) := by decide +kernel
theorem dJ2_putChar_b72d1_18 : decode cJ2_putChar_b72d1 18 = .ok (.new 52, 3) := by decide +kernel
theorem dJ2_putChar_b72d1_21 : decode cJ2_putChar_b72d1 21 = .ok (.dup, 1) := by decide +kernel
theorem dJ2_putChar_b72d1_22 : decode cJ2_putChar_b72d1 22 = .ok (.ldc 54, 2) := by decide +kernel
theorem dJ2_putChar_b72d1_24 : decode cJ2_putChar_b72d1 24 = .ok (.invokespecial 56, 3) := by decide +kernel
theorem dJ2_putChar_b72d1_27 : decode cJ2_putChar_b72d1 27 = .ok (.athrow, 1) := by decide +kernel
theorem dJ2_putChar_b72d1_28 : decode cJ2_putChar_b72d1 28 = .ok (.iload_n 1, 1) := by decide +kernel
theorem dJ2_putChar_b72d1_29 : decode cJ2_putChar_b72d1 29 = .ok (.iconst 1, 1) := by decide +kernel
theorem dJ2_putChar_b72d1_30 : decode cJ2_putChar_b72d1 30 = .ok (.ishl, 1) := by decide +kernel
theorem dJ2_putChar_b72d1_31 : decode cJ2_putChar_b72d1 31 = .ok (.istore_n 1, 1) := by decide +kernel
theorem dJ2_putChar_b72d1_32 : decode cJ2_putChar_b72d1 32 = .ok (.aload_n 0, 1) := by decide +kernel
theorem dJ2_putChar_b72d1_33 : decode cJ2_putChar_b72d1 33 = .ok (.iload_n 1, 1) := by decide +kernel
theorem dJ2_putChar_b72d1_34 : decode cJ2_putChar_b72d1 34 = .ok (.iinc 1 1, 3) := by decide +kernel
theorem dJ2_putChar_b72d1_37 : decode cJ2_putChar_b72d1 37 = .ok (.iload_n 2, 1) := by decide +kernel
theorem dJ2_putChar_b72d1_38 : decode cJ2_putChar_b72d1 38 = .ok (.getstatic 59, 3) := by decide +kernel
theorem dJ2_putChar_b72d1_41 : decode cJ2_putChar_b72d1 41 = .ok (.ishr, 1) := by decide +kernel
theorem dJ2_putChar_b72d1_42 : decode cJ2_putChar_b72d1 42 = .ok (.i2b, 1) := by decide +kernel
theorem dJ2_putChar_b72d1_43 : decode cJ2_putChar_b72d1 43 = .ok (.bastore, 1) := by decide +kernel
theorem dJ2_putChar_b72d1_44 : decode cJ2_putChar_b72d1 44 = .ok (.aload_n 0, 1) := by decide +kernel
theorem dJ2_putChar_b72d1_45 : decode cJ2_putChar_b72d1 45 = .ok (.iload_n 1, 1) := by decide +kernel
theorem dJ2_putChar_b72d1_46 : decode cJ2_putChar_b72d1 46 = .ok (.iload_n 2, 1) := by decide +kernel
theorem dJ2_putChar_b72d1_47 : decode cJ2_putChar_b72d1 47 = .ok (.getstatic 63, 3) := by decide +kernel
theorem dJ2_putChar_b72d1_50 : decode cJ2_putChar_b72d1 50 = .ok (.ishr, 1) := by decide +kernel
theorem dJ2_putChar_b72d1_51 : decode cJ2_putChar_b72d1 51 = .ok (.i2b, 1) := by decide +kernel
theorem dJ2_putChar_b72d1_52 : decode cJ2_putChar_b72d1 52 = .ok (.bastore, 1) := by decide +kernel
theorem dJ2_putChar_b72d1_53 : decode cJ2_putChar_b72d1 53 = .ok (.return_, 1) := by decide +kernel
set_option maxRecDepth 20000 in
theorem ggJ2_getChar_3b067_J2_length_9d52b : GoodIn wsJ2_getChar_3b067 wsJ2_length_9d52b := goodIn_r _ [7] (by decide +kernel) (by decide +kernel)
set_option maxRecDepth 20000 in
theorem gJ2_getChar_3b067_J2_length_9d52b : GoodIn wsJ2_getChar_3b067 (va_wsS RJ2 48 yJ2_length_9d52b wsJ2_length_9d52b) := goodIn_app (goodIn_of _ (by decide +kernel)) ggJ2_getChar_3b067_J2_length_9d52b
theorem dJ2_getChar_3b067_0 : decode cJ2_getChar_3b067 0 = .ok (.getstatic 44, 3) := by decide +kernel
theorem dJ2_getChar_3b067_3 : decode cJ2_getChar_3b067 3 = .ok (.ifCond .ne 25, 3) := by decide +kernel
theorem dJ2_getChar_3b067_6 : decode cJ2_getChar_3b067 6 = .ok (.iload_n 1, 1) := by decide +kernel
theorem dJ2_getChar_3b067_7 : decode cJ2_getChar_3b067 7 = .ok (.ifCond .lt 11, 3) := by decide +kernel
theorem dJ2_getChar_3b067_10 : decode cJ2_getChar_3b067 10 = .ok (.iload_n 1, 1) := by decide +kernel
theorem dJ2_getChar_3b067_11 : decode cJ2_getChar_3b067 11 = .ok (.aload_n 0, 1) := by decide +kernel
theorem dJ2_getChar_3b067_12 : decode cJ2_getChar_3b067 12 = .ok (.invokestatic 48, 3) := by decide +kernel
theorem dJ2_getChar_3b067_15 : decode cJ2_getChar_3b067 15 = .ok (.if_icmp .lt 13, 3) := by decide +kernel
theorem dJ2_getChar_3b067_18 : decode cJ2_getChar_3b067 18 = .ok (.new 52, 3) := by decide +kernel
theorem dJ2_getChar_3b067_21 : decode cJ2_getChar_3b067 21 = .ok (.dup, 1) := by decide +kernel
theorem dJ2_getChar_3b067_22 : decode cJ2_getChar_3b067 22 = .ok (.ldc 54, 2) := by decide +kernel
theorem dJ2_getChar_3b067_24 : decode cJ2_getChar_3b067 24 = .ok (.invokespecial 56, 3) := by decide +kernel
theorem dJ2_getChar_3b067_27 : decode cJ2_getChar_3b067 27 = .ok (.athrow, 1) := by decide +kernel
theorem dJ2_getChar_3b067_28 : decode cJ2_getChar_3b067 28 = .ok (.iload_n 1, 1) := by decide +kernel
theorem dJ2_getChar_3b067_29 : decode cJ2_getChar_3b067 29 = .ok (.iconst 1, 1) := by decide +kernel
theorem dJ2_getChar_3b067_30 : decode cJ2_getChar_3b067 30 = .ok (.ishl, 1) := by decide +kernel
theorem dJ2_getChar_3b067_31 : decode cJ2_getChar_3b067 31 = .ok (.istore_n 1, 1) := by decide +kernel
theorem dJ2_getChar_3b067_32 : decode cJ2_getChar_3b067 32 = .ok (.aload_n 0, 1) := by decide +kernel
theorem dJ2_getChar_3b067_33 : decode cJ2_getChar_3b067 33 = .ok (.iload_n 1, 1) := by decide +kernel
theorem dJ2_getChar_3b067_34 : decode cJ2_getChar_3b067 34 = .ok (.iinc 1 1, 3) := by decide +kernel
theorem dJ2_getChar_3b067_37 : decode cJ2_getChar_3b067 37 = .ok (.baload, 1) := by decide +kernel
theorem dJ2_getChar_3b067_38 : decode cJ2_getChar_3b067 38 = .ok (.sipush 255, 3) := by decide +kernel
theorem dJ2_getChar_3b067_41 : decode cJ2_getChar_3b067 41 = .ok (.iand, 1) := by decide +kernel
theorem dJ2_getChar_3b067_42 : decode cJ2_getChar_3b067 42 = .ok (.getstatic 59, 3) := by decide +kernel
theorem dJ2_getChar_3b067_45 : decode cJ2_getChar_3b067 45 = .ok (.ishl, 1) := by decide +kernel
theorem dJ2_getChar_3b067_46 : decode cJ2_getChar_3b067 46 = .ok (.aload_n 0, 1) := by decide +kernel
theorem dJ2_getChar_3b067_47 : decode cJ2_getChar_3b067 47 = .ok (.iload_n 1, 1) := by decide +kernel
theorem dJ2_getChar_3b067_48 : decode cJ2_getChar_3b067 48 = .ok (.baload, 1) := by decide +kernel
theorem dJ2_getChar_3b067_49 : decode cJ2_getChar_3b067 49 = .ok (.sipush 255, 3) := by decide +kernel
theorem dJ2_getChar_3b067_52 : decode cJ2_getChar_3b067 52 = .ok (.iand, 1) := by decide +kernel
theorem dJ2_getChar_3b067_53 : decode cJ2_getChar_3b067 53 = .ok (.getstatic 63, 3) := by decide +kernel
theorem dJ2_getChar_3b067_56 : decode cJ2_getChar_3b067 56 = .ok (.ishl, 1) := by decide +kernel
theorem dJ2_getChar_3b067_57 : decode cJ2_getChar_3b067 57 = .ok (.ior, 1) := by decide +kernel
theorem dJ2_getChar_3b067_58 : decode cJ2_getChar_3b067 58 = .ok (.i2c, 1) := by decide +kernel
theorem dJ2_getChar_3b067_59 : decode cJ2_getChar_3b067 59 = .ok (.ireturn, 1) := by decide +kernel
theorem dJ2_length_9d52b_0 : decode cJ2_length_9d52b 0 = .ok (.aload_n 0, 1) := by decide +kernel
theorem dJ2_length_9d52b_1 : decode cJ2_length_9d52b 1 = .ok (.arraylength, 1) := by decide +kernel
theorem dJ2_length_9d52b_2 : decode cJ2_length_9d52b 2 = .ok (.iconst 1, 1) := by decide +kernel
theorem dJ2_length_9d52b_3 : decode cJ2_length_9d52b 3 = .ok (.ishr, 1) := by decide +kernel
theorem dJ2_length_9d52b_4 : decode cJ2_length_9d52b 4 = .ok (.ireturn, 1) := by decide +kernel
theorem dJ2_coderFromArrayLen_85cad_0 : decode cJ2_coderFromArrayLen_85cad 0 = .ok (.iload_n 1, 1) := by decide +kernel
theorem dJ2_coderFromArrayLen_85cad_1 : decode cJ2_coderFromArrayLen_85cad 1 = .ok (.aload_n 0, 1) := by decide +kernel
theorem dJ2_coderFromArrayLen_85cad_2 : decode cJ2_coderFromArrayLen_85cad 2 = .ok (.arraylength, 1) := by decide +kernel
theorem dJ2_coderFromArrayLen_85cad_3 : decode cJ2_coderFromArrayLen_85cad 3 = .ok (.isub, 1) := by decide +kernel
theorem dJ2_coderFromArrayLen_85cad_4 : decode cJ2_coderFromArrayLen_85cad 4 = .ok (.bipush 31, 2) := by decide +kernel
theorem dJ2_coderFromArrayLen_85cad_6 : decode cJ2_coderFromArrayLen_85cad 6 = .ok (.iushr, 1) := by decide +kernel
theorem dJ2_coderFromArrayLen_85cad_7 : decode cJ2_coderFromArrayLen_85cad 7 = .ok (.i2b, 1) := by decide +kernel
theorem dJ2_coderFromArrayLen_85cad_8 : decode cJ2_coderFromArrayLen_85cad 8 = .ok (.ireturn, 1) := by decide +kernel
set_option maxRecDepth 20000 in
theorem ggJ2_compress_39247_J2_compress_5af95 : GoodIn wsJ2_compress_39247 wsJ2_compress_5af95 := goodIn_r _ [5, 6, 7, 4, 8, 9, 10, 11, 12, 13, 14, 15, 16, 17, 18, 19, 20, 21, 22, 23, 24, 25, 26] (by decide +kernel) (by decide +kernel)
set_option maxRecDepth 20000 in
theorem gJ2_compress_39247_J2_compress_5af95 : GoodIn wsJ2_compress_39247 (va_wsS RJ2 123 yJ2_compress_5af95 wsJ2_compress_5af95) := goodIn_app (goodIn_of _ (by decide +kernel)) ggJ2_compress_39247_J2_compress_5af95
set_option maxRecDepth 20000 in
theorem ggJ2_compress_39247_J2_newBytesLength_0f7a4 : GoodIn wsJ2_compress_39247 wsJ2_newBytesLength_0f7a4 := goodIn_r _ [29, 30] (by decide +kernel) (by decide +kernel)
set_option maxRecDepth 20000 in
theorem gJ2_compress_39247_J2_newBytesLength_0f7a4 : GoodIn wsJ2_compress_39247 (va_wsS RJ2 11 yJ2_newBytesLength_0f7a4 wsJ2_newBytesLength_0f7a4) := goodIn_app (goodIn_of _ (by decide +kernel)) ggJ2_compress_39247_J2_newBytesLength_0f7a4
set_option maxRecDepth 20000 in
theorem ggJ2_compress_39247_J7_copyOfRange_39247 : GoodIn wsJ2_compress_39247 wsJ7_copyOfRange_39247 := goodIn_r _ [34, 35, 36, 37, 38, 39, 40, 41, 42, 33, 43, 1, 44, 45, 46, 47, 48, 49, 50, 51, 52, 53, 54, 55, 56, 57, 58, 59, 60, 61] (by decide +kernel) (by decide +kernel)
set_option maxRecDepth 20000 in
theorem gJ2_compress_39247_J7_copyOfRange_39247 : GoodIn wsJ2_compress_39247 (va_wsS RJ2 126 yJ7_copyOfRange_39247 wsJ7_copyOfRange_39247) := goodIn_app (goodIn_of _ (by decide +kernel)) ggJ2_compress_39247_J7_copyOfRange_39247
set_option maxRecDepth 20000 in
theorem ggJ2_compress_39247_J2_getChar_3b067 : GoodIn wsJ2_compress_39247 wsJ2_getChar_3b067 := goodIn_r _ [23, 24, 25, 26, 9, 10, 4, 11] (by decide +kernel) (by decide +kernel)
set_option maxRecDepth 20000 in
theorem gJ2_compress_39247_J2_getChar_3b067 : GoodIn wsJ2_compress_39247 (va_wsS RJ2 71 yJ2_getChar_3b067 wsJ2_getChar_3b067) := goodIn_app (goodIn_of _ (by decide +kernel)) ggJ2_compress_39247_J2_getChar_3b067
theorem dJ2_compress_39247_0 : decode cJ2_compress_39247 0 = .ok (.iload_n 2, 1) := by decide +kernel
theorem dJ2_compress_39247_1 : decode cJ2_compress_39247 1 = .ok (.newarray .byte, 2) := by decide +kernel
theorem dJ2_compress_39247_3 : decode cJ2_compress_39247 3 = .ok (.astore_n 3, 1) := by decide +kernel
theorem dJ2_compress_39247_4 : decode cJ2_compress_39247 4 = .ok (.aload_n 0, 1) := by decide +kernel
theorem dJ2_compress_39247_5 : decode cJ2_compress_39247 5 = .ok (.iload_n 1, 1) := by decide +kernel
theorem dJ2_compress_39247_6 : decode cJ2_compress_39247 6 = .ok (.aload_n 3, 1) := by decide +kernel
theorem dJ2_compress_39247_7 : decode cJ2_compress_39247 7 = .ok (.iconst 0, 1) := by decide +kernel
theorem dJ2_compress_39247_8 : decode cJ2_compress_39247 8 = .ok (.iload_n 2, 1) := by decide +kernel
theorem dJ2_compress_39247_9 : decode cJ2_compress_39247 9 = .ok (.invokestatic 123, 3) := by decide +kernel
theorem dJ2_compress_39247_12 : decode cJ2_compress_39247 12 = .ok (.istore 4, 2) := by decide +kernel
theorem dJ2_compress_39247_14 : decode cJ2_compress_39247 14 = .ok (.iload 4, 2) := by decide +kernel
theorem dJ2_compress_39247_16 : decode cJ2_compress_39247 16 = .ok (.iload_n 2, 1) := by decide +kernel
theorem dJ2_compress_39247_17 : decode cJ2_compress_39247 17 = .ok (.if_icmp .eq 47, 3) := by decide +kernel
theorem dJ2_compress_39247_20 : decode cJ2_compress_39247 20 = .ok (.aload_n 0, 1) := by decide +kernel
theorem dJ2_compress_39247_21 : decode cJ2_compress_39247 21 = .ok (.iload_n 1, 1) := by decide +kernel
theorem dJ2_compress_39247_22 : decode cJ2_compress_39247 22 = .ok (.iconst 1, 1) := by decide +kernel
theorem dJ2_compress_39247_23 : decode cJ2_compress_39247 23 = .ok (.ishl, 1) := by decide +kernel
theorem dJ2_compress_39247_24 : decode cJ2_compress_39247 24 = .ok (.iload_n 1, 1) := by decide +kernel
theorem dJ2_compress_39247_25 : decode cJ2_compress_39247 25 = .ok (.iload_n 2, 1) := by decide +kernel
theorem dJ2_compress_39247_26 : decode cJ2_compress_39247 26 = .ok (.iadd, 1) := by decide +kernel
theorem dJ2_compress_39247_27 : decode cJ2_compress_39247 27 = .ok (.invokestatic 11, 3) := by decide +kernel
theorem dJ2_compress_39247_30 : decode cJ2_compress_39247 30 = .ok (.invokestatic 126, 3) := by decide +kernel
theorem dJ2_compress_39247_33 : decode cJ2_compress_39247 33 = .ok (.astore 5, 2) := by decide +kernel
theorem dJ2_compress_39247_35 : decode cJ2_compress_39247 35 = .ok (.aload 5, 2) := by decide +kernel
theorem dJ2_compress_39247_37 : decode cJ2_compress_39247 37 = .ok (.iload 4, 2) := by decide +kernel
theorem dJ2_compress_39247_39 : decode cJ2_compress_39247 39 = .ok (.invokestatic 71, 3) := by decide +kernel
theorem dJ2_compress_39247_42 : decode cJ2_compress_39247 42 = .ok (.sipush 255, 3) := by decide +kernel
theorem dJ2_compress_39247_45 : decode cJ2_compress_39247 45 = .ok (.if_icmp .gt 16, 3) := by decide +kernel
theorem dJ2_compress_39247_48 : decode cJ2_compress_39247 48 = .ok (.aload 5, 2) := by decide +kernel
theorem dJ2_compress_39247_50 : decode cJ2_compress_39247 50 = .ok (.iconst 0, 1) := by decide +kernel
theorem dJ2_compress_39247_51 : decode cJ2_compress_39247 51 = .ok (.aload_n 3, 1) := by decide +kernel
theorem dJ2_compress_39247_52 : decode cJ2_compress_39247 52 = .ok (.iconst 0, 1) := by decide +kernel
theorem dJ2_compress_39247_53 : decode cJ2_compress_39247 53 = .ok (.iload_n 2, 1) := by decide +kernel
theorem dJ2_compress_39247_54 : decode cJ2_compress_39247 54 = .ok (.invokestatic 123, 3) := by decide +kernel
theorem dJ2_compress_39247_57 : decode cJ2_compress_39247 57 = .ok (.iload_n 2, 1) := by decide +kernel
theorem dJ2_compress_39247_58 : decode cJ2_compress_39247 58 = .ok (.if_icmp .eq 6, 3) := by decide +kernel
theorem dJ2_compress_39247_61 : decode cJ2_compress_39247 61 = .ok (.aload 5, 2) := by decide +kernel
theorem dJ2_compress_39247_63 : decode cJ2_compress_39247 63 = .ok (.areturn, 1) := by decide +kernel
theorem dJ2_compress_39247_64 : decode cJ2_compress_39247 64 = .ok (.aload_n 3, 1) := by decide +kernel
theorem dJ2_compress_39247_65 : decode cJ2_compress_39247 65 = .ok (.areturn, 1) := by decide +kernel
set_option maxRecDepth 20000 in
theorem ggJ2_compress_5af95_J2_checkBoundsOffCount_d044e : GoodIn wsJ2_compress_5af95 wsJ2_checkBoundsOffCount_d044e := goodIn_r _ [4, 5, 6, 3, 7, 8, 9, 10, 11, 12, 13, 14, 15, 16] (by decide +kernel) (by decide +kernel)
set_option maxRecDepth 20000 in
theorem gJ2_compress_5af95_J2_checkBoundsOffCount_d044e : GoodIn wsJ2_compress_5af95 (va_wsS RJ2 173 yJ2_checkBoundsOffCount_d044e wsJ2_checkBoundsOffCount_d044e) := goodIn_app (goodIn_of _ (by decide +kernel)) ggJ2_compress_5af95_J2_checkBoundsOffCount_d044e
set_option maxRecDepth 20000 in
theorem ggJ2_compress_5af95_J2_getChar_3b067 : GoodIn wsJ2_compress_5af95 wsJ2_getChar_3b067 := goodIn_r _ [19, 20, 21, 22, 5, 6, 3, 7] (by decide +kernel) (by decide +kernel)
set_option maxRecDepth 20000 in
theorem gJ2_compress_5af95_J2_getChar_3b067 : GoodIn wsJ2_compress_5af95 (va_wsS RJ2 71 yJ2_getChar_3b067 wsJ2_getChar_3b067) := goodIn_app (goodIn_of _ (by decide +kernel)) ggJ2_compress_5af95_J2_getChar_3b067
theorem dJ2_compress_5af95_0 : decode cJ2_compress_5af95 0 = .ok (.iload_n 1, 1) := by decide +kernel
theorem dJ2_compress_5af95_1 : decode cJ2_compress_5af95 1 = .ok (.iload 4, 2) := by decide +kernel
theorem dJ2_compress_5af95_3 : decode cJ2_compress_5af95 3 = .ok (.aload_n 0, 1) := by decide +kernel
theorem dJ2_compress_5af95_4 : decode cJ2_compress_5af95 4 = .ok (.invokestatic 173, 3) := by decide +kernel
theorem dJ2_compress_5af95_7 : decode cJ2_compress_5af95 7 = .ok (.iconst 0, 1) := by decide +kernel
theorem dJ2_compress_5af95_8 : decode cJ2_compress_5af95 8 = .ok (.istore 5, 2) := by decide +kernel
theorem dJ2_compress_5af95_10 : decode cJ2_compress_5af95 10 = .ok (.iload 5, 2) := by decide +kernel
theorem dJ2_compress_5af95_12 : decode cJ2_compress_5af95 12 = .ok (.iload 4, 2) := by decide +kernel
theorem dJ2_compress_5af95_14 : decode cJ2_compress_5af95 14 = .ok (.if_icmp .ge 39, 3) := by decide +kernel
theorem dJ2_compress_5af95_17 : decode cJ2_compress_5af95 17 = .ok (.aload_n 0, 1) := by decide +kernel
theorem dJ2_compress_5af95_18 : decode cJ2_compress_5af95 18 = .ok (.iload_n 1, 1) := by decide +kernel
theorem dJ2_compress_5af95_19 : decode cJ2_compress_5af95 19 = .ok (.invokestatic 71, 3) := by decide +kernel
theorem dJ2_compress_5af95_22 : decode cJ2_compress_5af95 22 = .ok (.istore 6, 2) := by decide +kernel
theorem dJ2_compress_5af95_24 : decode cJ2_compress_5af95 24 = .ok (.iload 6, 2) := by decide +kernel
theorem dJ2_compress_5af95_26 : decode cJ2_compress_5af95 26 = .ok (.sipush 255, 3) := by decide +kernel
theorem dJ2_compress_5af95_29 : decode cJ2_compress_5af95 29 = .ok (.if_icmp .le 6, 3) := by decide +kernel
theorem dJ2_compress_5af95_32 : decode cJ2_compress_5af95 32 = .ok (.iload 5, 2) := by decide +kernel
theorem dJ2_compress_5af95_34 : decode cJ2_compress_5af95 34 = .ok (.ireturn, 1) := by decide +kernel
theorem dJ2_compress_5af95_35 : decode cJ2_compress_5af95 35 = .ok (.aload_n 2, 1) := by decide +kernel
theorem dJ2_compress_5af95_36 : decode cJ2_compress_5af95 36 = .ok (.iload_n 3, 1) := by decide +kernel
theorem dJ2_compress_5af95_37 : decode cJ2_compress_5af95 37 = .ok (.iload 6, 2) := by decide +kernel
theorem dJ2_compress_5af95_39 : decode cJ2_compress_5af95 39 = .ok (.i2b, 1) := by decide +kernel
theorem dJ2_compress_5af95_40 : decode cJ2_compress_5af95 40 = .ok (.bastore, 1) := by decide +kernel
theorem dJ2_compress_5af95_41 : decode cJ2_compress_5af95 41 = .ok (.iinc 1 1, 3) := by decide +kernel
theorem dJ2_compress_5af95_44 : decode cJ2_compress_5af95 44 = .ok (.iinc 3 1, 3) := by decide +kernel
theorem dJ2_compress_5af95_47 : decode cJ2_compress_5af95 47 = .ok (.iinc 5 1, 3) := by decide +kernel
theorem dJ2_compress_5af95_50 : decode cJ2_compress_5af95 50 = .ok (.goto (-40), 3) := by decide +kernel
theorem dJ2_compress_5af95_53 : decode cJ2_compress_5af95 53 = .ok (.iload 4, 2) := by decide +kernel
theorem dJ2_compress_5af95_55 : decode cJ2_compress_5af95 55 = .ok (.ireturn, 1) := by decide +kernel
set_option maxRecDepth 20000 in
theorem ggJ2_fillNull_b72d1_J7_fill_eb02e : GoodIn wsJ2_fillNull_b72d1 wsJ7_fill_eb02e := goodIn_r _ [4, 5, 6, 3, 7, 8, 9, 10, 11, 12, 13, 14, 15, 16, 17, 18, 19, 20, 21, 22, 23] (by decide +kernel) (by decide +kernel)
set_option maxRecDepth 20000 in
theorem gJ2_fillNull_b72d1_J7_fill_eb02e : GoodIn wsJ2_fillNull_b72d1 (va_wsS RJ2 380 yJ7_fill_eb02e wsJ7_fill_eb02e) := goodIn_app (goodIn_of _ (by decide +kernel)) ggJ2_fillNull_b72d1_J7_fill_eb02e
theorem dJ2_fillNull_b72d1_0 : decode cJ2_fillNull_b72d1 0 = .ok (.aload_n 0, 1) := by decide +kernel
theorem dJ2_fillNull_b72d1_1 : decode cJ2_fillNull_b72d1 1 = .ok (.iload_n 1, 1) := by decide +kernel
theorem dJ2_fillNull_b72d1_2 : decode cJ2_fillNull_b72d1 2 = .ok (.iconst 1, 1) := by decide +kernel
theorem dJ2_fillNull_b72d1_3 : decode cJ2_fillNull_b72d1 3 = .ok (.ishl, 1) := by decide +kernel
theorem dJ2_fillNull_b72d1_4 : decode cJ2_fillNull_b72d1 4 = .ok (.iload_n 2, 1) := by decide +kernel
theorem dJ2_fillNull_b72d1_5 : decode cJ2_fillNull_b72d1 5 = .ok (.iconst 1, 1) := by decide +kernel
theorem dJ2_fillNull_b72d1_6 : decode cJ2_fillNull_b72d1 6 = .ok (.ishl, 1) := by decide +kernel
theorem dJ2_fillNull_b72d1_7 : decode cJ2_fillNull_b72d1 7 = .ok (.iconst 0, 1) := by decide +kernel
theorem dJ2_fillNull_b72d1_8 : decode cJ2_fillNull_b72d1 8 = .ok (.invokestatic 380, 3) := by decide +kernel
theorem dJ2_fillNull_b72d1_11 : decode cJ2_fillNull_b72d1 11 = .ok (.return_, 1) := by decide +kernel
set_option maxRecDepth 20000 in
theorem ggJ2_putCharSB_b72d1_J2_checkIndex_2214a : GoodIn wsJ2_putCharSB_b72d1 wsJ2_checkIndex_2214a := goodIn_r _ [4, 5, 6, 3, 7, 8, 9, 10, 11, 12, 13, 14, 15, 16] (by decide +kernel) (by decide +kernel)
set_option maxRecDepth 20000 in
theorem gJ2_putCharSB_b72d1_J2_checkIndex_2214a : GoodIn wsJ2_putCharSB_b72d1 (va_wsS RJ2 67 yJ2_checkIndex_2214a wsJ2_checkIndex_2214a) := goodIn_app (goodIn_of _ (by decide +kernel)) ggJ2_putCharSB_b72d1_J2_checkIndex_2214a
set_option maxRecDepth 20000 in
theorem ggJ2_putCharSB_b72d1_J2_putChar_b72d1 : GoodIn wsJ2_putCharSB_b72d1 wsJ2_putChar_b72d1 := goodIn_r _ [19, 20, 21, 22, 5, 6, 3, 7] (by decide +kernel) (by decide +kernel)
set_option maxRecDepth 20000 in
theorem gJ2_putCharSB_b72d1_J2_putChar_b72d1 : GoodIn wsJ2_putCharSB_b72d1 (va_wsS RJ2 111 yJ2_putChar_b72d1 wsJ2_putChar_b72d1) := goodIn_app (goodIn_of _ (by decide +kernel)) ggJ2_putCharSB_b72d1_J2_putChar_b72d1
theorem dJ2_putCharSB_b72d1_0 : decode cJ2_putCharSB_b72d1 0 = .ok (.iload_n 1, 1) := by decide +kernel
theorem dJ2_putCharSB_b72d1_1 : decode cJ2_putCharSB_b72d1 1 = .ok (.aload_n 0, 1) := by decide +kernel
theorem dJ2_putCharSB_b72d1_2 : decode cJ2_putCharSB_b72d1 2 = .ok (.invokestatic 67, 3) := by decide +kernel
theorem dJ2_putCharSB_b72d1_5 : decode cJ2_putCharSB_b72d1 5 = .ok (.aload_n 0, 1) := by decide +kernel
theorem dJ2_putCharSB_b72d1_6 : decode cJ2_putCharSB_b72d1 6 = .ok (.iload_n 1, 1) := by decide +kernel
theorem dJ2_putCharSB_b72d1_7 : decode cJ2_putCharSB_b72d1 7 = .ok (.iload_n 2, 1) := by decide +kernel
theorem dJ2_putCharSB_b72d1_8 : decode cJ2_putCharSB_b72d1 8 = .ok (.invokestatic 111, 3) := by decide +kernel
theorem dJ2_putCharSB_b72d1_11 : decode cJ2_putCharSB_b72d1 11 = .ok (.return_, 1) := by decide +kernel
set_option maxRecDepth 20000 in
theorem ggJ2_getChars_46870_J2_checkBoundsBeginEnd_d044e : GoodIn wsJ2_getChars_46870 wsJ2_checkBoundsBeginEnd_d044e := goodIn_r _ [5, 6, 7, 4, 8, 9, 10, 11, 12, 13, 14, 15, 16, 17] (by decide +kernel) (by decide +kernel)
set_option maxRecDepth 20000 in
theorem gJ2_getChars_46870_J2_checkBoundsBeginEnd_d044e : GoodIn wsJ2_getChars_46870 (va_wsS RJ2 96 yJ2_checkBoundsBeginEnd_d044e wsJ2_checkBoundsBeginEnd_d044e) := goodIn_app (goodIn_of _ (by decide +kernel)) ggJ2_getChars_46870_J2_checkBoundsBeginEnd_d044e
set_option maxRecDepth 20000 in
theorem ggJ2_getChars_46870_J2_getChars_ba4f3 : GoodIn wsJ2_getChars_46870 wsJ2_getChars_ba4f3 := goodIn_r _ [20, 21, 22, 23, 24, 4, 25, 1, 26, 27, 6, 7, 8] (by decide +kernel) (by decide +kernel)
set_option maxRecDepth 20000 in
theorem gJ2_getChars_46870_J2_getChars_ba4f3 : GoodIn wsJ2_getChars_46870 (va_wsS RJ2 393 yJ2_getChars_ba4f3 wsJ2_getChars_ba4f3) := goodIn_app (goodIn_of _ (by decide +kernel)) ggJ2_getChars_46870_J2_getChars_ba4f3
theorem dJ2_getChars_46870_0 : decode cJ2_getChars_46870 0 = .ok (.iload_n 1, 1) := by decide +kernel
theorem dJ2_getChars_46870_1 : decode cJ2_getChars_46870 1 = .ok (.iload_n 2, 1) := by decide +kernel
theorem dJ2_getChars_46870_2 : decode cJ2_getChars_46870 2 = .ok (.aload_n 3, 1) := by decide +kernel
theorem dJ2_getChars_46870_3 : decode cJ2_getChars_46870 3 = .ok (.invokestatic 96, 3) := by decide +kernel
theorem dJ2_getChars_46870_6 : decode cJ2_getChars_46870 6 = .ok (.iload_n 0, 1) := by decide +kernel
theorem dJ2_getChars_46870_7 : decode cJ2_getChars_46870 7 = .ok (.iload_n 2, 1) := by decide +kernel
theorem dJ2_getChars_46870_8 : decode cJ2_getChars_46870 8 = .ok (.aload_n 3, 1) := by decide +kernel
theorem dJ2_getChars_46870_9 : decode cJ2_getChars_46870 9 = .ok (.invokestatic 393, 3) := by decide +kernel
theorem dJ2_getChars_46870_12 : decode cJ2_getChars_46870 12 = .ok (.istore 4, 2) := by decide +kernel
theorem dJ2_getChars_46870_14 : decode cJ2_getChars_46870 14 = .ok (.getstatic 44, 3) := by decide +kernel
theorem dJ2_getChars_46870_17 : decode cJ2_getChars_46870 17 = .ok (.ifCond .ne 17, 3) := by decide +kernel
theorem dJ2_getChars_46870_20 : decode cJ2_getChars_46870 20 = .ok (.iload_n 1, 1) := by decide +kernel
theorem dJ2_getChars_46870_21 : decode cJ2_getChars_46870 21 = .ok (.iload 4, 2) := by decide +kernel
theorem dJ2_getChars_46870_23 : decode cJ2_getChars_46870 23 = .ok (.if_icmp .eq 11, 3) := by decide +kernel
theorem dJ2_getChars_46870_26 : decode cJ2_getChars_46870 26 = .ok (.new 52, 3) := by decide +kernel
theorem dJ2_getChars_46870_29 : decode cJ2_getChars_46870 29 = .ok (.dup, 1) := by decide +kernel
theorem dJ2_getChars_46870_30 : decode cJ2_getChars_46870 30 = .ok (.invokespecial 66, 3) := by decide +kernel
theorem dJ2_getChars_46870_33 : decode cJ2_getChars_46870 33 = .ok (.athrow, 1) := by decide +kernel
theorem dJ2_getChars_46870_34 : decode cJ2_getChars_46870 34 = .ok (.iload 4, 2) := by decide +kernel
theorem dJ2_getChars_46870_36 : decode cJ2_getChars_46870 36 = .ok (.ireturn, 1) := by decide +kernel
set_option maxRecDepth 20000 in
theorem ggJ2_putCharsAt_cd4e5_J2_checkBoundsBeginEnd_d044e : GoodIn wsJ2_putCharsAt_cd4e5 wsJ2_checkBoundsBeginEnd_d044e := goodIn_r _ [5, 6, 7, 4, 8, 9, 10, 11, 12, 13, 14, 15, 16, 17] (by decide +kernel) (by decide +kernel)
set_option maxRecDepth 20000 in
theorem gJ2_putCharsAt_cd4e5_J2_checkBoundsBeginEnd_d044e : GoodIn wsJ2_putCharsAt_cd4e5 (va_wsS RJ2 96 yJ2_checkBoundsBeginEnd_d044e wsJ2_checkBoundsBeginEnd_d044e) := goodIn_app (goodIn_of _ (by decide +kernel)) ggJ2_putCharsAt_cd4e5_J2_checkBoundsBeginEnd_d044e
set_option maxRecDepth 20000 in
theorem ggJ2_putCharsAt_cd4e5_J2_putChar_b72d1 : GoodIn wsJ2_putCharsAt_cd4e5 wsJ2_putChar_b72d1 := goodIn_r _ [20, 1, 21, 22, 6, 7, 4, 8] (by decide +kernel) (by decide +kernel)
set_option maxRecDepth 20000 in
theorem gJ2_putCharsAt_cd4e5_J2_putChar_b72d1 : GoodIn wsJ2_putCharsAt_cd4e5 (va_wsS RJ2 111 yJ2_putChar_b72d1 wsJ2_putChar_b72d1) := goodIn_app (goodIn_of _ (by decide +kernel)) ggJ2_putCharsAt_cd4e5_J2_putChar_b72d1
theorem dJ2_putCharsAt_cd4e5_0 : decode cJ2_putCharsAt_cd4e5 0 = .ok (.iload_n 1, 1) := by decide +kernel
theorem dJ2_putCharsAt_cd4e5_1 : decode cJ2_putCharsAt_cd4e5 1 = .ok (.iconst 4, 1) := by decide +kernel
theorem dJ2_putCharsAt_cd4e5_2 : decode cJ2_putCharsAt_cd4e5 2 = .ok (.iadd, 1) := by decide +kernel
theorem dJ2_putCharsAt_cd4e5_3 : decode cJ2_putCharsAt_cd4e5 3 = .ok (.istore 6, 2) := by decide +kernel
theorem dJ2_putCharsAt_cd4e5_5 : decode cJ2_putCharsAt_cd4e5 5 = .ok (.iload_n 1, 1) := by decide +kernel
theorem dJ2_putCharsAt_cd4e5_6 : decode cJ2_putCharsAt_cd4e5 6 = .ok (.iload 6, 2) := by decide +kernel
theorem dJ2_putCharsAt_cd4e5_8 : decode cJ2_putCharsAt_cd4e5 8 = .ok (.aload_n 0, 1) := by decide +kernel
theorem dJ2_putCharsAt_cd4e5_9 : decode cJ2_putCharsAt_cd4e5 9 = .ok (.invokestatic 96, 3) := by decide +kernel
theorem dJ2_putCharsAt_cd4e5_12 : decode cJ2_putCharsAt_cd4e5 12 = .ok (.aload_n 0, 1) := by decide +kernel
theorem dJ2_putCharsAt_cd4e5_13 : decode cJ2_putCharsAt_cd4e5 13 = .ok (.iload_n 1, 1) := by decide +kernel
theorem dJ2_putCharsAt_cd4e5_14 : decode cJ2_putCharsAt_cd4e5 14 = .ok (.iinc 1 1, 3) := by decide +kernel
theorem dJ2_putCharsAt_cd4e5_17 : decode cJ2_putCharsAt_cd4e5 17 = .ok (.iload_n 2, 1) := by decide +kernel
theorem dJ2_putCharsAt_cd4e5_18 : decode cJ2_putCharsAt_cd4e5 18 = .ok (.invokestatic 111, 3) := by decide +kernel
theorem dJ2_putCharsAt_cd4e5_21 : decode cJ2_putCharsAt_cd4e5 21 = .ok (.aload_n 0, 1) := by decide +kernel
theorem dJ2_putCharsAt_cd4e5_22 : decode cJ2_putCharsAt_cd4e5 22 = .ok (.iload_n 1, 1) := by decide +kernel
theorem dJ2_putCharsAt_cd4e5_23 : decode cJ2_putCharsAt_cd4e5 23 = .ok (.iinc 1 1, 3) := by decide +kernel
theorem dJ2_putCharsAt_cd4e5_26 : decode cJ2_putCharsAt_cd4e5 26 = .ok (.iload_n 3, 1) := by decide +kernel
theorem dJ2_putCharsAt_cd4e5_27 : decode cJ2_putCharsAt_cd4e5 27 = .ok (.invokestatic 111, 3) := by decide +kernel
theorem dJ2_putCharsAt_cd4e5_30 : decode cJ2_putCharsAt_cd4e5 30 = .ok (.aload_n 0, 1) := by decide +kernel
theorem dJ2_putCharsAt_cd4e5_31 : decode cJ2_putCharsAt_cd4e5 31 = .ok (.iload_n 1, 1) := by decide +kernel
theorem dJ2_putCharsAt_cd4e5_32 : decode cJ2_putCharsAt_cd4e5 32 = .ok (.iinc 1 1, 3) := by decide +kernel
theorem dJ2_putCharsAt_cd4e5_35 : decode cJ2_putCharsAt_cd4e5 35 = .ok (.iload 4, 2) := by decide +kernel
theorem dJ2_putCharsAt_cd4e5_37 : decode cJ2_putCharsAt_cd4e5 37 = .ok (.invokestatic 111, 3) := by decide +kernel
theorem dJ2_putCharsAt_cd4e5_40 : decode cJ2_putCharsAt_cd4e5 40 = .ok (.aload_n 0, 1) := by decide +kernel
theorem dJ2_putCharsAt_cd4e5_41 : decode cJ2_putCharsAt_cd4e5 41 = .ok (.iload_n 1, 1) := by decide +kernel
theorem dJ2_putCharsAt_cd4e5_42 : decode cJ2_putCharsAt_cd4e5 42 = .ok (.iinc 1 1, 3) := by decide +kernel
theorem dJ2_putCharsAt_cd4e5_45 : decode cJ2_putCharsAt_cd4e5 45 = .ok (.iload 5, 2) := by decide +kernel
theorem dJ2_putCharsAt_cd4e5_47 : decode cJ2_putCharsAt_cd4e5 47 = .ok (.invokestatic 111, 3) := by decide +kernel
theorem dJ2_putCharsAt_cd4e5_50 : decode cJ2_putCharsAt_cd4e5 50 = .ok (.getstatic 44, 3) := by decide +kernel
theorem dJ2_putCharsAt_cd4e5_53 : decode cJ2_putCharsAt_cd4e5 53 = .ok (.ifCond .ne 17, 3) := by decide +kernel
theorem dJ2_putCharsAt_cd4e5_56 : decode cJ2_putCharsAt_cd4e5 56 = .ok (.iload_n 1, 1) := by decide +kernel
theorem dJ2_putCharsAt_cd4e5_57 : decode cJ2_putCharsAt_cd4e5 57 = .ok (.iload 6, 2) := by decide +kernel
theorem dJ2_putCharsAt_cd4e5_59 : decode cJ2_putCharsAt_cd4e5 59 = .ok (.if_icmp .eq 11, 3) := by decide +kernel
theorem dJ2_putCharsAt_cd4e5_62 : decode cJ2_putCharsAt_cd4e5 62 = .ok (.new 52, 3) := by decide +kernel
theorem dJ2_putCharsAt_cd4e5_65 : decode cJ2_putCharsAt_cd4e5 65 = .ok (.dup, 1) := by decide +kernel
theorem dJ2_putCharsAt_cd4e5_66 : decode cJ2_putCharsAt_cd4e5 66 = .ok (.invokespecial 66, 3) := by decide +kernel
theorem dJ2_putCharsAt_cd4e5_69 : decode cJ2_putCharsAt_cd4e5 69 = .ok (.athrow, 1) := by decide +kernel
theorem dJ2_putCharsAt_cd4e5_70 : decode cJ2_putCharsAt_cd4e5 70 = .ok (.iload 6, 2) := by decide +kernel
theorem dJ2_putCharsAt_cd4e5_72 : decode cJ2_putCharsAt_cd4e5 72 = .ok (.ireturn, 1) := by decide +kernel
set_option maxRecDepth 20000 in
theorem ggJ2_charAt_3b067_J2_checkIndex_2214a : GoodIn wsJ2_charAt_3b067 wsJ2_checkIndex_2214a := goodIn_r _ [4, 5, 6, 3, 7, 8, 9, 10, 11, 12, 13, 14, 15, 16] (by decide +kernel) (by decide +kernel)
set_option maxRecDepth 20000 in
theorem gJ2_charAt_3b067_J2_checkIndex_2214a : GoodIn wsJ2_charAt_3b067 (va_wsS RJ2 67 yJ2_checkIndex_2214a wsJ2_checkIndex_2214a) := goodIn_app (goodIn_of _ (by decide +kernel)) ggJ2_charAt_3b067_J2_checkIndex_2214a
set_option maxRecDepth 20000 in
theorem ggJ2_charAt_3b067_J2_getChar_3b067 : GoodIn wsJ2_charAt_3b067 wsJ2_getChar_3b067 := goodIn_r _ [19, 20, 21, 22, 5, 6, 3, 7] (by decide +kernel) (by decide +kernel)
set_option maxRecDepth 20000 in
theorem gJ2_charAt_3b067_J2_getChar_3b067 : GoodIn wsJ2_charAt_3b067 (va_wsS RJ2 71 yJ2_getChar_3b067 wsJ2_getChar_3b067) := goodIn_app (goodIn_of _ (by decide +kernel)) ggJ2_charAt_3b067_J2_getChar_3b067
theorem dJ2_charAt_3b067_0 : decode cJ2_charAt_3b067 0 = .ok (.iload_n 1, 1) := by decide +kernel
theorem dJ2_charAt_3b067_1 : decode cJ2_charAt_3b067 1 = .ok (.aload_n 0, 1) := by decide +kernel
theorem dJ2_charAt_3b067_2 : decode cJ2_charAt_3b067 2 = .ok (.invokestatic 67, 3) := by decide +kernel
theorem dJ2_charAt_3b067_5 : decode cJ2_charAt_3b067 5 = .ok (.aload_n 0, 1) := by decide +kernel
theorem dJ2_charAt_3b067_6 : decode cJ2_charAt_3b067 6 = .ok (.iload_n 1, 1) := by decide +kernel
theorem dJ2_charAt_3b067_7 : decode cJ2_charAt_3b067 7 = .ok (.invokestatic 71, 3) := by decide +kernel
theorem dJ2_charAt_3b067_10 : decode cJ2_charAt_3b067 10 = .ok (.ireturn, 1) := by decide +kernel
set_option maxRecDepth 20000 in
theorem ggJ2_inflate_0e8fd_J2_checkBoundsOffCount_d044e : GoodIn wsJ2_inflate_0e8fd wsJ2_checkBoundsOffCount_d044e := goodIn_r _ [4, 5, 6, 3, 7, 8, 9, 10, 11, 12, 13, 14, 15, 16] (by decide +kernel) (by decide +kernel)
set_option maxRecDepth 20000 in
theorem gJ2_inflate_0e8fd_J2_checkBoundsOffCount_d044e : GoodIn wsJ2_inflate_0e8fd (va_wsS RJ2 173 yJ2_checkBoundsOffCount_d044e wsJ2_checkBoundsOffCount_d044e) := goodIn_app (goodIn_of _ (by decide +kernel)) ggJ2_inflate_0e8fd_J2_checkBoundsOffCount_d044e
set_option maxRecDepth 20000 in
theorem ggJ2_inflate_0e8fd_J2_putChar_b72d1 : GoodIn wsJ2_inflate_0e8fd wsJ2_putChar_b72d1 := goodIn_r _ [19, 20, 21, 22, 5, 6, 3, 7] (by decide +kernel) (by decide +kernel)
set_option maxRecDepth 20000 in
theorem gJ2_inflate_0e8fd_J2_putChar_b72d1 : GoodIn wsJ2_inflate_0e8fd (va_wsS RJ2 111 yJ2_putChar_b72d1 wsJ2_putChar_b72d1) := goodIn_app (goodIn_of _ (by decide +kernel)) ggJ2_inflate_0e8fd_J2_putChar_b72d1
theorem dJ2_inflate_0e8fd_0 : decode cJ2_inflate_0e8fd 0 = .ok (.iload_n 3, 1) := by decide +kernel
theorem dJ2_inflate_0e8fd_1 : decode cJ2_inflate_0e8fd 1 = .ok (.iload 4, 2) := by decide +kernel
theorem dJ2_inflate_0e8fd_3 : decode cJ2_inflate_0e8fd 3 = .ok (.aload_n 2, 1) := by decide +kernel
theorem dJ2_inflate_0e8fd_4 : decode cJ2_inflate_0e8fd 4 = .ok (.invokestatic 173, 3) := by decide +kernel
theorem dJ2_inflate_0e8fd_7 : decode cJ2_inflate_0e8fd 7 = .ok (.iconst 0, 1) := by decide +kernel
theorem dJ2_inflate_0e8fd_8 : decode cJ2_inflate_0e8fd 8 = .ok (.istore 5, 2) := by decide +kernel
theorem dJ2_inflate_0e8fd_10 : decode cJ2_inflate_0e8fd 10 = .ok (.iload 5, 2) := by decide +kernel
theorem dJ2_inflate_0e8fd_12 : decode cJ2_inflate_0e8fd 12 = .ok (.iload 4, 2) := by decide +kernel
theorem dJ2_inflate_0e8fd_14 : decode cJ2_inflate_0e8fd 14 = .ok (.if_icmp .ge 27, 3) := by decide +kernel
theorem dJ2_inflate_0e8fd_17 : decode cJ2_inflate_0e8fd 17 = .ok (.aload_n 2, 1) := by decide +kernel
theorem dJ2_inflate_0e8fd_18 : decode cJ2_inflate_0e8fd 18 = .ok (.iload_n 3, 1) := by decide +kernel
theorem dJ2_inflate_0e8fd_19 : decode cJ2_inflate_0e8fd 19 = .ok (.iinc 3 1, 3) := by decide +kernel
theorem dJ2_inflate_0e8fd_22 : decode cJ2_inflate_0e8fd 22 = .ok (.aload_n 0, 1) := by decide +kernel
theorem dJ2_inflate_0e8fd_23 : decode cJ2_inflate_0e8fd 23 = .ok (.iload_n 1, 1) := by decide +kernel
theorem dJ2_inflate_0e8fd_24 : decode cJ2_inflate_0e8fd 24 = .ok (.iinc 1 1, 3) := by decide +kernel
theorem dJ2_inflate_0e8fd_27 : decode cJ2_inflate_0e8fd 27 = .ok (.baload, 1) := by decide +kernel
theorem dJ2_inflate_0e8fd_28 : decode cJ2_inflate_0e8fd 28 = .ok (.sipush 255, 3) := by decide +kernel
theorem dJ2_inflate_0e8fd_31 : decode cJ2_inflate_0e8fd 31 = .ok (.iand, 1) := by decide +kernel
theorem dJ2_inflate_0e8fd_32 : decode cJ2_inflate_0e8fd 32 = .ok (.invokestatic 111, 3) := by decide +kernel
theorem dJ2_inflate_0e8fd_35 : decode cJ2_inflate_0e8fd 35 = .ok (.iinc 5 1, 3) := by decide +kernel
theorem dJ2_inflate_0e8fd_38 : decode cJ2_inflate_0e8fd 38 = .ok (.goto (-28), 3) := by decide +kernel
theorem dJ2_inflate_0e8fd_41 : decode cJ2_inflate_0e8fd 41 = .ok (.return_, 1) := by decide +kernel
set_option maxRecDepth 20000 in
theorem ggJ2_getChars_ba4f3_J2_putChar_b72d1 : GoodIn wsJ2_getChars_ba4f3 wsJ2_putChar_b72d1 := goodIn_r _ [6, 7, 8, 9, 10, 11, 5, 12] (by decide +kernel) (by decide +kernel)
set_option maxRecDepth 20000 in
theorem gJ2_getChars_ba4f3_J2_putChar_b72d1 : GoodIn wsJ2_getChars_ba4f3 (va_wsS RJ2 111 yJ2_putChar_b72d1 wsJ2_putChar_b72d1) := goodIn_app (goodIn_of _ (by decide +kernel)) ggJ2_getChars_ba4f3_J2_putChar_b72d1
theorem dJ2_getChars_ba4f3_0 : decode cJ2_getChars_ba4f3 0 = .ok (.iload_n 1, 1) := by decide +kernel
theorem dJ2_getChars_ba4f3_1 : decode cJ2_getChars_ba4f3 1 = .ok (.istore 5, 2) := by decide +kernel
theorem dJ2_getChars_ba4f3_3 : decode cJ2_getChars_ba4f3 3 = .ok (.iload_n 0, 1) := by decide +kernel
theorem dJ2_getChars_ba4f3_4 : decode cJ2_getChars_ba4f3 4 = .ok (.ifCond .ge 7, 3) := by decide +kernel
theorem dJ2_getChars_ba4f3_7 : decode cJ2_getChars_ba4f3 7 = .ok (.iconst 1, 1) := by decide +kernel
theorem dJ2_getChars_ba4f3_8 : decode cJ2_getChars_ba4f3 8 = .ok (.goto 4, 3) := by decide +kernel
theorem dJ2_getChars_ba4f3_11 : decode cJ2_getChars_ba4f3 11 = .ok (.iconst 0, 1) := by decide +kernel
theorem dJ2_getChars_ba4f3_12 : decode cJ2_getChars_ba4f3 12 = .ok (.istore 6, 2) := by decide +kernel
theorem dJ2_getChars_ba4f3_14 : decode cJ2_getChars_ba4f3 14 = .ok (.iload 6, 2) := by decide +kernel
theorem dJ2_getChars_ba4f3_16 : decode cJ2_getChars_ba4f3 16 = .ok (.ifCond .ne 6, 3) := by decide +kernel
theorem dJ2_getChars_ba4f3_19 : decode cJ2_getChars_ba4f3 19 = .ok (.iload_n 0, 1) := by decide +kernel
theorem dJ2_getChars_ba4f3_20 : decode cJ2_getChars_ba4f3 20 = .ok (.ineg, 1) := by decide +kernel
theorem dJ2_getChars_ba4f3_21 : decode cJ2_getChars_ba4f3 21 = .ok (.istore_n 0, 1) := by decide +kernel
theorem dJ2_getChars_ba4f3_22 : decode cJ2_getChars_ba4f3 22 = .ok (.iload_n 0, 1) := by decide +kernel
theorem dJ2_getChars_ba4f3_23 : decode cJ2_getChars_ba4f3 23 = .ok (.bipush (-100), 2) := by decide +kernel
theorem dJ2_getChars_ba4f3_25 : decode cJ2_getChars_ba4f3 25 = .ok (.if_icmp .gt 51, 3) := by decide +kernel
theorem dJ2_getChars_ba4f3_28 : decode cJ2_getChars_ba4f3 28 = .ok (.iload_n 0, 1) := by decide +kernel
theorem dJ2_getChars_ba4f3_29 : decode cJ2_getChars_ba4f3 29 = .ok (.bipush 100, 2) := by decide +kernel
theorem dJ2_getChars_ba4f3_31 : decode cJ2_getChars_ba4f3 31 = .ok (.idiv, 1) := by decide +kernel
theorem dJ2_getChars_ba4f3_32 : decode cJ2_getChars_ba4f3 32 = .ok (.istore_n 3, 1) := by decide +kernel
theorem dJ2_getChars_ba4f3_33 : decode cJ2_getChars_ba4f3 33 = .ok (.iload_n 3, 1) := by decide +kernel
theorem dJ2_getChars_ba4f3_34 : decode cJ2_getChars_ba4f3 34 = .ok (.bipush 100, 2) := by decide +kernel
theorem dJ2_getChars_ba4f3_36 : decode cJ2_getChars_ba4f3 36 = .ok (.imul, 1) := by decide +kernel
theorem dJ2_getChars_ba4f3_37 : decode cJ2_getChars_ba4f3 37 = .ok (.iload_n 0, 1) := by decide +kernel
theorem dJ2_getChars_ba4f3_38 : decode cJ2_getChars_ba4f3 38 = .ok (.isub, 1) := by decide +kernel
theorem dJ2_getChars_ba4f3_39 : decode cJ2_getChars_ba4f3 39 = .ok (.istore 4, 2) := by decide +kernel
theorem dJ2_getChars_ba4f3_41 : decode cJ2_getChars_ba4f3 41 = .ok (.iload_n 3, 1) := by decide +kernel
theorem dJ2_getChars_ba4f3_42 : decode cJ2_getChars_ba4f3 42 = .ok (.istore_n 0, 1) := by decide +kernel
theorem dJ2_getChars_ba4f3_43 : decode cJ2_getChars_ba4f3 43 = .ok (.aload_n 2, 1) := by decide +kernel
theorem dJ2_getChars_ba4f3_44 : decode cJ2_getChars_ba4f3 44 = .ok (.iinc 5 (-1), 3) := by decide +kernel
theorem dJ2_getChars_ba4f3_47 : decode cJ2_getChars_ba4f3 47 = .ok (.iload 5, 2) := by decide +kernel
theorem dJ2_getChars_ba4f3_49 : decode cJ2_getChars_ba4f3 49 = .ok (.getstatic 403, 3) := by decide +kernel
theorem dJ2_getChars_ba4f3_52 : decode cJ2_getChars_ba4f3 52 = .ok (.iload 4, 2) := by decide +kernel
theorem dJ2_getChars_ba4f3_54 : decode cJ2_getChars_ba4f3 54 = .ok (.baload, 1) := by decide +kernel
theorem dJ2_getChars_ba4f3_55 : decode cJ2_getChars_ba4f3 55 = .ok (.invokestatic 111, 3) := by decide +kernel
theorem dJ2_getChars_ba4f3_58 : decode cJ2_getChars_ba4f3 58 = .ok (.aload_n 2, 1) := by decide +kernel
theorem dJ2_getChars_ba4f3_59 : decode cJ2_getChars_ba4f3 59 = .ok (.iinc 5 (-1), 3) := by decide +kernel
theorem dJ2_getChars_ba4f3_62 : decode cJ2_getChars_ba4f3 62 = .ok (.iload 5, 2) := by decide +kernel
theorem dJ2_getChars_ba4f3_64 : decode cJ2_getChars_ba4f3 64 = .ok (.getstatic 407, 3) := by decide +kernel
theorem dJ2_getChars_ba4f3_67 : decode cJ2_getChars_ba4f3 67 = .ok (.iload 4, 2) := by decide +kernel
theorem dJ2_getChars_ba4f3_69 : decode cJ2_getChars_ba4f3 69 = .ok (.baload, 1) := by decide +kernel
theorem dJ2_getChars_ba4f3_70 : decode cJ2_getChars_ba4f3 70 = .ok (.invokestatic 111, 3) := by decide +kernel
theorem dJ2_getChars_ba4f3_73 : decode cJ2_getChars_ba4f3 73 = .ok (.goto (-51), 3) := by decide +kernel
theorem dJ2_getChars_ba4f3_76 : decode cJ2_getChars_ba4f3 76 = .ok (.aload_n 2, 1) := by decide +kernel
theorem dJ2_getChars_ba4f3_77 : decode cJ2_getChars_ba4f3 77 = .ok (.iinc 5 (-1), 3) := by decide +kernel
theorem dJ2_getChars_ba4f3_80 : decode cJ2_getChars_ba4f3 80 = .ok (.iload 5, 2) := by decide +kernel
theorem dJ2_getChars_ba4f3_82 : decode cJ2_getChars_ba4f3 82 = .ok (.getstatic 403, 3) := by decide +kernel
theorem dJ2_getChars_ba4f3_85 : decode cJ2_getChars_ba4f3 85 = .ok (.iload_n 0, 1) := by decide +kernel
theorem dJ2_getChars_ba4f3_86 : decode cJ2_getChars_ba4f3 86 = .ok (.ineg, 1) := by decide +kernel
theorem dJ2_getChars_ba4f3_87 : decode cJ2_getChars_ba4f3 87 = .ok (.baload, 1) := by decide +kernel
theorem dJ2_getChars_ba4f3_88 : decode cJ2_getChars_ba4f3 88 = .ok (.invokestatic 111, 3) := by decide +kernel
theorem dJ2_getChars_ba4f3_91 : decode cJ2_getChars_ba4f3 91 = .ok (.iload_n 0, 1) := by decide +kernel
theorem dJ2_getChars_ba4f3_92 : decode cJ2_getChars_ba4f3 92 = .ok (.bipush (-9), 2) := by decide +kernel
theorem dJ2_getChars_ba4f3_94 : decode cJ2_getChars_ba4f3 94 = .ok (.if_icmp .ge 18, 3) := by decide +kernel
theorem dJ2_getChars_ba4f3_97 : decode cJ2_getChars_ba4f3 97 = .ok (.aload_n 2, 1) := by decide +kernel
theorem dJ2_getChars_ba4f3_98 : decode cJ2_getChars_ba4f3 98 = .ok (.iinc 5 (-1), 3) := by decide +kernel
theorem dJ2_getChars_ba4f3_101 : decode cJ2_getChars_ba4f3 101 = .ok (.iload 5, 2) := by decide +kernel
theorem dJ2_getChars_ba4f3_103 : decode cJ2_getChars_ba4f3 103 = .ok (.getstatic 407, 3) := by decide +kernel
theorem dJ2_getChars_ba4f3_106 : decode cJ2_getChars_ba4f3 106 = .ok (.iload_n 0, 1) := by decide +kernel
theorem dJ2_getChars_ba4f3_107 : decode cJ2_getChars_ba4f3 107 = .ok (.ineg, 1) := by decide +kernel
theorem dJ2_getChars_ba4f3_108 : decode cJ2_getChars_ba4f3 108 = .ok (.baload, 1) := by decide +kernel
theorem dJ2_getChars_ba4f3_109 : decode cJ2_getChars_ba4f3 109 = .ok (.invokestatic 111, 3) := by decide +kernel
theorem dJ2_getChars_ba4f3_112 : decode cJ2_getChars_ba4f3 112 = .ok (.iload 6, 2) := by decide +kernel
theorem dJ2_getChars_ba4f3_114 : decode cJ2_getChars_ba4f3 114 = .ok (.ifCond .eq 14, 3) := by decide +kernel
theorem dJ2_getChars_ba4f3_117 : decode cJ2_getChars_ba4f3 117 = .ok (.aload_n 2, 1) := by decide +kernel
theorem dJ2_getChars_ba4f3_118 : decode cJ2_getChars_ba4f3 118 = .ok (.iinc 5 (-1), 3) := by decide +kernel
theorem dJ2_getChars_ba4f3_121 : decode cJ2_getChars_ba4f3 121 = .ok (.iload 5, 2) := by decide +kernel
theorem dJ2_getChars_ba4f3_123 : decode cJ2_getChars_ba4f3 123 = .ok (.bipush 45, 2) := by decide +kernel
theorem dJ2_getChars_ba4f3_125 : decode cJ2_getChars_ba4f3 125 = .ok (.invokestatic 111, 3) := by decide +kernel
theorem dJ2_getChars_ba4f3_128 : decode cJ2_getChars_ba4f3 128 = .ok (.iload 5, 2) := by decide +kernel
theorem dJ2_getChars_ba4f3_130 : decode cJ2_getChars_ba4f3 130 = .ok (.ireturn, 1) := by decide +kernel
set_option maxRecDepth 20000 in
theorem ggJ2_checkIndex_2214a_J2_length_9d52b : GoodIn wsJ2_checkIndex_2214a wsJ2_length_9d52b := goodIn_r _ [4] (by decide +kernel) (by decide +kernel)
set_option maxRecDepth 20000 in
theorem gJ2_checkIndex_2214a_J2_length_9d52b : GoodIn wsJ2_checkIndex_2214a (va_wsS RJ2 48 yJ2_length_9d52b wsJ2_length_9d52b) := goodIn_app (goodIn_of _ (by decide +kernel)) ggJ2_checkIndex_2214a_J2_length_9d52b
set_option maxRecDepth 20000 in
theorem ggJ2_checkIndex_2214a_J0_checkIndex_df160 : GoodIn wsJ2_checkIndex_2214a wsJ0_checkIndex_df160 := goodIn_r _ [8, 9, 10, 11, 12, 13] (by decide +kernel) (by decide +kernel)
set_option maxRecDepth 20000 in
theorem gJ2_checkIndex_2214a_J0_checkIndex_df160 : GoodIn wsJ2_checkIndex_2214a (va_wsS RJ2 414 yJ0_checkIndex_df160 wsJ0_checkIndex_df160) := goodIn_app (goodIn_of _ (by decide +kernel)) ggJ2_checkIndex_2214a_J0_checkIndex_df160
theorem dJ2_checkIndex_2214a_0 : decode cJ2_checkIndex_2214a 0 = .ok (.iload_n 0, 1) := by decide +kernel
theorem dJ2_checkIndex_2214a_1 : decode cJ2_checkIndex_2214a 1 = .ok (.aload_n 1, 1) := by decide +kernel
theorem dJ2_checkIndex_2214a_2 : decode cJ2_checkIndex_2214a 2 = .ok (.invokestatic 48, 3) := by decide +kernel
theorem dJ2_checkIndex_2214a_5 : decode cJ2_checkIndex_2214a 5 = .ok (.invokestatic 414, 3) := by decide +kernel
theorem dJ2_checkIndex_2214a_8 : decode cJ2_checkIndex_2214a 8 = .ok (.return_, 1) := by decide +kernel
set_option maxRecDepth 20000 in
theorem ggJ2_checkBoundsBeginEnd_d044e_J2_length_9d52b : GoodIn wsJ2_checkBoundsBeginEnd_d044e wsJ2_length_9d52b := goodIn_r _ [4] (by decide +kernel) (by decide +kernel)
set_option maxRecDepth 20000 in
theorem gJ2_checkBoundsBeginEnd_d044e_J2_length_9d52b : GoodIn wsJ2_checkBoundsBeginEnd_d044e (va_wsS RJ2 48 yJ2_length_9d52b wsJ2_length_9d52b) := goodIn_app (goodIn_of _ (by decide +kernel)) ggJ2_checkBoundsBeginEnd_d044e_J2_length_9d52b
set_option maxRecDepth 20000 in
theorem ggJ2_checkBoundsBeginEnd_d044e_J0_checkBoundsBeginEnd_23922 : GoodIn wsJ2_checkBoundsBeginEnd_d044e wsJ0_checkBoundsBeginEnd_23922 := goodIn_r _ [8, 9, 10, 11, 12, 13] (by decide +kernel) (by decide +kernel)
set_option maxRecDepth 20000 in
theorem gJ2_checkBoundsBeginEnd_d044e_J0_checkBoundsBeginEnd_23922 : GoodIn wsJ2_checkBoundsBeginEnd_d044e (va_wsS RJ2 241 yJ0_checkBoundsBeginEnd_23922 wsJ0_checkBoundsBeginEnd_23922) := goodIn_app (goodIn_of _ (by decide +kernel)) ggJ2_checkBoundsBeginEnd_d044e_J0_checkBoundsBeginEnd_23922
theorem dJ2_checkBoundsBeginEnd_d044e_0 : decode cJ2_checkBoundsBeginEnd_d044e 0 = .ok (.iload_n 0, 1) := by decide +kernel
theorem dJ2_checkBoundsBeginEnd_d044e_1 : decode cJ2_checkBoundsBeginEnd_d044e 1 = .ok (.iload_n 1, 1) := by decide +kernel
theorem dJ2_checkBoundsBeginEnd_d044e_2 : decode cJ2_checkBoundsBeginEnd_d044e 2 = .ok (.aload_n 2, 1) := by decide +kernel
theorem dJ2_checkBoundsBeginEnd_d044e_3 : decode cJ2_checkBoundsBeginEnd_d044e 3 = .ok (.invokestatic 48, 3) := by decide +kernel
theorem dJ2_checkBoundsBeginEnd_d044e_6 : decode cJ2_checkBoundsBeginEnd_d044e 6 = .ok (.invokestatic 241, 3) := by decide +kernel
theorem dJ2_checkBoundsBeginEnd_d044e_9 : decode cJ2_checkBoundsBeginEnd_d044e 9 = .ok (.return_, 1) := by decide +kernel
set_option maxRecDepth 20000 in
theorem ggJ2_checkBoundsOffCount_d044e_J2_length_9d52b : GoodIn wsJ2_checkBoundsOffCount_d044e wsJ2_length_9d52b := goodIn_r _ [4] (by decide +kernel) (by decide +kernel)
set_option maxRecDepth 20000 in
theorem gJ2_checkBoundsOffCount_d044e_J2_length_9d52b : GoodIn wsJ2_checkBoundsOffCount_d044e (va_wsS RJ2 48 yJ2_length_9d52b wsJ2_length_9d52b) := goodIn_app (goodIn_of _ (by decide +kernel)) ggJ2_checkBoundsOffCount_d044e_J2_length_9d52b
set_option maxRecDepth 20000 in
theorem ggJ2_checkBoundsOffCount_d044e_J0_checkBoundsOffCount_cabcc : GoodIn wsJ2_checkBoundsOffCount_d044e wsJ0_checkBoundsOffCount_cabcc := goodIn_r _ [8, 9, 10, 11, 12, 13] (by decide +kernel) (by decide +kernel)
set_option maxRecDepth 20000 in
theorem gJ2_checkBoundsOffCount_d044e_J0_checkBoundsOffCount_cabcc : GoodIn wsJ2_checkBoundsOffCount_d044e (va_wsS RJ2 419 yJ0_checkBoundsOffCount_cabcc wsJ0_checkBoundsOffCount_cabcc) := goodIn_app (goodIn_of _ (by decide +kernel)) ggJ2_checkBoundsOffCount_d044e_J0_checkBoundsOffCount_cabcc
theorem dJ2_checkBoundsOffCount_d044e_0 : decode cJ2_checkBoundsOffCount_d044e 0 = .ok (.iload_n 0, 1) := by decide +kernel
theorem dJ2_checkBoundsOffCount_d044e_1 : decode cJ2_checkBoundsOffCount_d044e 1 = .ok (.iload_n 1, 1) := by decide +kernel
theorem dJ2_checkBoundsOffCount_d044e_2 : decode cJ2_checkBoundsOffCount_d044e 2 = .ok (.aload_n 2, 1) := by decide +kernel
theorem dJ2_checkBoundsOffCount_d044e_3 : decode cJ2_checkBoundsOffCount_d044e 3 = .ok (.invokestatic 48, 3) := by decide +kernel
theorem dJ2_checkBoundsOffCount_d044e_6 : decode cJ2_checkBoundsOffCount_d044e 6 = .ok (.invokestatic 419, 3) := by decide +kernel
theorem dJ2_checkBoundsOffCount_d044e_9 : decode cJ2_checkBoundsOffCount_d044e 9 = .ok (.pop, 1) := by decide +kernel
theorem dJ2_checkBoundsOffCount_d044e_10 : decode cJ2_checkBoundsOffCount_d044e 10 = .ok (.return_, 1) := by decide +kernel
theorem dJ7_rangeCheck_23922_0 : decode cJ7_rangeCheck_23922 0 = .ok (.iload_n 1, 1) := by decide +kernel
theorem dJ7_rangeCheck_23922_1 : decode cJ7_rangeCheck_23922 1 = .ok (.iload_n 2, 1) := by decide +kernel
theorem dJ7_rangeCheck_23922_2 : decode cJ7_rangeCheck_23922 2 = .ok (.if_icmp .le 44, 3) := by decide +kernel
theorem dJ7_rangeCheck_23922_5 : decode cJ7_rangeCheck_23922 5 = .ok (.new 43, 3) := by decide +kernel
theorem dJ7_rangeCheck_23922_8 : decode cJ7_rangeCheck_23922 8 = .ok (.dup, 1) := by decide +kernel
theorem dJ7_rangeCheck_23922_9 : decode cJ7_rangeCheck_23922 9 = .ok (.new 45, 3) := by decide +kernel
theorem dJ7_rangeCheck_23922_12 : decode cJ7_rangeCheck_23922 12 = .ok (.dup, 1) := by decide +kernel
theorem dJ7_rangeCheck_23922_13 : decode cJ7_rangeCheck_23922 13 = .ok (.invokespecial 47, 3) := by decide +kernel
theorem dJ7_rangeCheck_23922_16 : decode cJ7_rangeCheck_23922 16 = .ok (.ldc 48, 2) := by decide +kernel
theorem dJ7_rangeCheck_23922_18 : decode cJ7_rangeCheck_23922 18 = .ok (.invokevirtual 50, 3) := by decide +kernel
theorem dJ7_rangeCheck_23922_21 : decode cJ7_rangeCheck_23922 21 = .ok (.iload_n 1, 1) := by decide +kernel
theorem dJ7_rangeCheck_23922_22 : decode cJ7_rangeCheck_23922 22 = .ok (.invokevirtual 54, 3) := by decide +kernel
theorem dJ7_rangeCheck_23922_25 : decode cJ7_rangeCheck_23922 25 = .ok (.ldc 57, 2) := by decide +kernel
theorem dJ7_rangeCheck_23922_27 : decode cJ7_rangeCheck_23922 27 = .ok (.invokevirtual 50, 3) := by decide +kernel
theorem dJ7_rangeCheck_23922_30 : decode cJ7_rangeCheck_23922 30 = .ok (.iload_n 2, 1) := by decide +kernel
theorem dJ7_rangeCheck_23922_31 : decode cJ7_rangeCheck_23922 31 = .ok (.invokevirtual 54, 3) := by decide +kernel
theorem dJ7_rangeCheck_23922_34 : decode cJ7_rangeCheck_23922 34 = .ok (.ldc 59, 2) := by decide +kernel
theorem dJ7_rangeCheck_23922_36 : decode cJ7_rangeCheck_23922 36 = .ok (.invokevirtual 50, 3) := by decide +kernel
theorem dJ7_rangeCheck_23922_39 : decode cJ7_rangeCheck_23922 39 = .ok (.invokevirtual 61, 3) := by decide +kernel
theorem dJ7_rangeCheck_23922_42 : decode cJ7_rangeCheck_23922 42 = .ok (.invokespecial 65, 3) := by decide +kernel
theorem dJ7_rangeCheck_23922_45 : decode cJ7_rangeCheck_23922 45 = .ok (.athrow, 1) := by decide +kernel
theorem dJ7_rangeCheck_23922_46 : decode cJ7_rangeCheck_23922 46 = .ok (.iload_n 1, 1) := by decide +kernel
theorem dJ7_rangeCheck_23922_47 : decode cJ7_rangeCheck_23922 47 = .ok (.ifCond .ge 12, 3) := by decide +kernel
theorem dJ7_rangeCheck_23922_50 : decode cJ7_rangeCheck_23922 50 = .ok (.new 68, 3) := by decide +kernel
theorem dJ7_rangeCheck_23922_53 : decode cJ7_rangeCheck_23922 53 = .ok (.dup, 1) := by decide +kernel
theorem dJ7_rangeCheck_23922_54 : decode cJ7_rangeCheck_23922 54 = .ok (.iload_n 1, 1) := by decide +kernel
theorem dJ7_rangeCheck_23922_55 : decode cJ7_rangeCheck_23922 55 = .ok (.invokespecial 70, 3) := by decide +kernel
theorem dJ7_rangeCheck_23922_58 : decode cJ7_rangeCheck_23922 58 = .ok (.athrow, 1) := by decide +kernel
theorem dJ7_rangeCheck_23922_59 : decode cJ7_rangeCheck_23922 59 = .ok (.iload_n 2, 1) := by decide +kernel
theorem dJ7_rangeCheck_23922_60 : decode cJ7_rangeCheck_23922 60 = .ok (.iload_n 0, 1) := by decide +kernel
theorem dJ7_rangeCheck_23922_61 : decode cJ7_rangeCheck_23922 61 = .ok (.if_icmp .le 12, 3) := by decide +kernel
theorem dJ7_rangeCheck_23922_64 : decode cJ7_rangeCheck_23922 64 = .ok (.new 68, 3) := by decide +kernel
theorem dJ7_rangeCheck_23922_67 : decode cJ7_rangeCheck_23922 67 = .ok (.dup, 1) := by decide +kernel
theorem dJ7_rangeCheck_23922_68 : decode cJ7_rangeCheck_23922 68 = .ok (.iload_n 2, 1) := by decide +kernel
theorem dJ7_rangeCheck_23922_69 : decode cJ7_rangeCheck_23922 69 = .ok (.invokespecial 70, 3) := by decide +kernel
theorem dJ7_rangeCheck_23922_72 : decode cJ7_rangeCheck_23922 72 = .ok (.athrow, 1) := by decide +kernel
theorem dJ7_rangeCheck_23922_73 : decode cJ7_rangeCheck_23922 73 = .ok (.return_, 1) := by decide +kernel
theorem dJ7_fill_53178_0 : decode cJ7_fill_53178 0 = .ok (.iconst 0, 1) := by decide +kernel
theorem dJ7_fill_53178_1 : decode cJ7_fill_53178 1 = .ok (.istore_n 2, 1) := by decide +kernel
theorem dJ7_fill_53178_2 : decode cJ7_fill_53178 2 = .ok (.aload_n 0, 1) := by decide +kernel
theorem dJ7_fill_53178_3 : decode cJ7_fill_53178 3 = .ok (.arraylength, 1) := by decide +kernel
theorem dJ7_fill_53178_4 : decode cJ7_fill_53178 4 = .ok (.istore_n 3, 1) := by decide +kernel
theorem dJ7_fill_53178_5 : decode cJ7_fill_53178 5 = .ok (.iload_n 2, 1) := by decide +kernel
theorem dJ7_fill_53178_6 : decode cJ7_fill_53178 6 = .ok (.iload_n 3, 1) := by decide +kernel
theorem dJ7_fill_53178_7 : decode cJ7_fill_53178 7 = .ok (.if_icmp .ge 13, 3) := by decide +kernel
theorem dJ7_fill_53178_10 : decode cJ7_fill_53178 10 = .ok (.aload_n 0, 1) := by decide +kernel
theorem dJ7_fill_53178_11 : decode cJ7_fill_53178 11 = .ok (.iload_n 2, 1) := by decide +kernel
theorem dJ7_fill_53178_12 : decode cJ7_fill_53178 12 = .ok (.iload_n 1, 1) := by decide +kernel
theorem dJ7_fill_53178_13 : decode cJ7_fill_53178 13 = .ok (.iastore, 1) := by decide +kernel
theorem dJ7_fill_53178_14 : decode cJ7_fill_53178 14 = .ok (.iinc 2 1, 3) := by decide +kernel
theorem dJ7_fill_53178_17 : decode cJ7_fill_53178 17 = .ok (.goto (-12), 3) := by decide +kernel
theorem dJ7_fill_53178_20 : decode cJ7_fill_53178 20 = .ok (.return_, 1) := by decide +kernel
set_option maxRecDepth 20000 in
theorem ggJ7_fill_eb02e_J7_rangeCheck_23922 : GoodIn wsJ7_fill_eb02e wsJ7_rangeCheck_23922 := goodIn_r _ [4, 5, 6, 7, 8, 9, 10, 11, 12, 13, 14, 15, 16, 17, 18, 19, 20] (by decide +kernel) (by decide +kernel)
set_option maxRecDepth 20000 in
theorem gJ7_fill_eb02e_J7_rangeCheck_23922 : GoodIn wsJ7_fill_eb02e (va_wsS RJ7 13 yJ7_rangeCheck_23922 wsJ7_rangeCheck_23922) := goodIn_app (goodIn_of _ (by decide +kernel)) ggJ7_fill_eb02e_J7_rangeCheck_23922
theorem dJ7_fill_eb02e_0 : decode cJ7_fill_eb02e 0 = .ok (.aload_n 0, 1) := by decide +kernel
theorem dJ7_fill_eb02e_1 : decode cJ7_fill_eb02e 1 = .ok (.arraylength, 1) := by decide +kernel
theorem dJ7_fill_eb02e_2 : decode cJ7_fill_eb02e 2 = .ok (.iload_n 1, 1) := by decide +kernel
theorem dJ7_fill_eb02e_3 : decode cJ7_fill_eb02e 3 = .ok (.iload_n 2, 1) := by decide +kernel
theorem dJ7_fill_eb02e_4 : decode cJ7_fill_eb02e 4 = .ok (.invokestatic 13, 3) := by decide +kernel
theorem dJ7_fill_eb02e_7 : decode cJ7_fill_eb02e 7 = .ok (.iload_n 1, 1) := by decide +kernel
theorem dJ7_fill_eb02e_8 : decode cJ7_fill_eb02e 8 = .ok (.istore 4, 2) := by decide +kernel
theorem dJ7_fill_eb02e_10 : decode cJ7_fill_eb02e 10 = .ok (.iload 4, 2) := by decide +kernel
theorem dJ7_fill_eb02e_12 : decode cJ7_fill_eb02e 12 = .ok (.iload_n 2, 1) := by decide +kernel
theorem dJ7_fill_eb02e_13 : decode cJ7_fill_eb02e 13 = .ok (.if_icmp .ge 14, 3) := by decide +kernel
theorem dJ7_fill_eb02e_16 : decode cJ7_fill_eb02e 16 = .ok (.aload_n 0, 1) := by decide +kernel
theorem dJ7_fill_eb02e_17 : decode cJ7_fill_eb02e 17 = .ok (.iload 4, 2) := by decide +kernel
theorem dJ7_fill_eb02e_19 : decode cJ7_fill_eb02e 19 = .ok (.iload_n 3, 1) := by decide +kernel
theorem dJ7_fill_eb02e_20 : decode cJ7_fill_eb02e 20 = .ok (.bastore, 1) := by decide +kernel
theorem dJ7_fill_eb02e_21 : decode cJ7_fill_eb02e 21 = .ok (.iinc 4 1, 3) := by decide +kernel
theorem dJ7_fill_eb02e_24 : decode cJ7_fill_eb02e 24 = .ok (.goto (-14), 3) := by decide +kernel
theorem dJ7_fill_eb02e_27 : decode cJ7_fill_eb02e 27 = .ok (.return_, 1) := by decide +kernel
theorem dJ7_copyOf_9075b_0 : decode cJ7_copyOf_9075b 0 = .ok (.iload_n 1, 1) := by decide +kernel
theorem dJ7_copyOf_9075b_1 : decode cJ7_copyOf_9075b 1 = .ok (.aload_n 0, 1) := by decide +kernel
theorem dJ7_copyOf_9075b_2 : decode cJ7_copyOf_9075b 2 = .ok (.arraylength, 1) := by decide +kernel
theorem dJ7_copyOf_9075b_3 : decode cJ7_copyOf_9075b 3 = .ok (.if_icmp .ne 11, 3) := by decide +kernel
theorem dJ7_copyOf_9075b_6 : decode cJ7_copyOf_9075b 6 = .ok (.aload_n 0, 1) := by decide +kernel
theorem dJ7_copyOf_9075b_7 : decode cJ7_copyOf_9075b 7 = .ok (.invokevirtual 310, 3) := by decide +kernel
theorem dJ7_copyOf_9075b_10 : decode cJ7_copyOf_9075b 10 = .ok (.checkcast 311, 3) := by decide +kernel
theorem dJ7_copyOf_9075b_13 : decode cJ7_copyOf_9075b 13 = .ok (.areturn, 1) := by decide +kernel
theorem dJ7_copyOf_9075b_14 : decode cJ7_copyOf_9075b 14 = .ok (.iload_n 1, 1) := by decide +kernel
theorem dJ7_copyOf_9075b_15 : decode cJ7_copyOf_9075b 15 = .ok (.newarray .byte, 2) := by decide +kernel
theorem dJ7_copyOf_9075b_17 : decode cJ7_copyOf_9075b 17 = .ok (.astore_n 2, 1) := by decide +kernel
theorem dJ7_copyOf_9075b_18 : decode cJ7_copyOf_9075b 18 = .ok (.aload_n 0, 1) := by decide +kernel
theorem dJ7_copyOf_9075b_19 : decode cJ7_copyOf_9075b 19 = .ok (.iconst 0, 1) := by decide +kernel
theorem dJ7_copyOf_9075b_20 : decode cJ7_copyOf_9075b 20 = .ok (.aload_n 2, 1) := by decide +kernel
theorem dJ7_copyOf_9075b_21 : decode cJ7_copyOf_9075b 21 = .ok (.iconst 0, 1) := by decide +kernel
theorem dJ7_copyOf_9075b_22 : decode cJ7_copyOf_9075b 22 = .ok (.aload_n 0, 1) := by decide +kernel
theorem dJ7_copyOf_9075b_23 : decode cJ7_copyOf_9075b 23 = .ok (.arraylength, 1) := by decide +kernel
theorem dJ7_copyOf_9075b_24 : decode cJ7_copyOf_9075b 24 = .ok (.iload_n 1, 1) := by decide +kernel
theorem dJ7_copyOf_9075b_25 : decode cJ7_copyOf_9075b 25 = .ok (.invokestatic 304, 3) := by decide +kernel
theorem dJ7_copyOf_9075b_28 : decode cJ7_copyOf_9075b 28 = .ok (.invokestatic 150, 3) := by decide +kernel
theorem dJ7_copyOf_9075b_31 : decode cJ7_copyOf_9075b 31 = .ok (.aload_n 2, 1) := by decide +kernel
theorem dJ7_copyOf_9075b_32 : decode cJ7_copyOf_9075b 32 = .ok (.areturn, 1) := by decide +kernel
theorem dJ7_checkLength_df160_0 : decode cJ7_checkLength_df160 0 = .ok (.iload_n 1, 1) := by decide +kernel
theorem dJ7_checkLength_df160_1 : decode cJ7_checkLength_df160 1 = .ok (.iload_n 0, 1) := by decide +kernel
theorem dJ7_checkLength_df160_2 : decode cJ7_checkLength_df160 2 = .ok (.if_icmp .ge 35, 3) := by decide +kernel
theorem dJ7_checkLength_df160_5 : decode cJ7_checkLength_df160 5 = .ok (.new 43, 3) := by decide +kernel
theorem dJ7_checkLength_df160_8 : decode cJ7_checkLength_df160 8 = .ok (.dup, 1) := by decide +kernel
theorem dJ7_checkLength_df160_9 : decode cJ7_checkLength_df160 9 = .ok (.new 45, 3) := by decide +kernel
theorem dJ7_checkLength_df160_12 : decode cJ7_checkLength_df160 12 = .ok (.dup, 1) := by decide +kernel
theorem dJ7_checkLength_df160_13 : decode cJ7_checkLength_df160 13 = .ok (.invokespecial 47, 3) := by decide +kernel
theorem dJ7_checkLength_df160_16 : decode cJ7_checkLength_df160 16 = .ok (.iload_n 0, 1) := by decide +kernel
theorem dJ7_checkLength_df160_17 : decode cJ7_checkLength_df160 17 = .ok (.invokevirtual 54, 3) := by decide +kernel
theorem dJ7_checkLength_df160_20 : decode cJ7_checkLength_df160 20 = .ok (.ldc_w 337, 3) := by decide +kernel
theorem dJ7_checkLength_df160_23 : decode cJ7_checkLength_df160 23 = .ok (.invokevirtual 50, 3) := by decide +kernel
theorem dJ7_checkLength_df160_26 : decode cJ7_checkLength_df160 26 = .ok (.iload_n 1, 1) := by decide +kernel
theorem dJ7_checkLength_df160_27 : decode cJ7_checkLength_df160 27 = .ok (.invokevirtual 54, 3) := by decide +kernel
theorem dJ7_checkLength_df160_30 : decode cJ7_checkLength_df160 30 = .ok (.invokevirtual 61, 3) := by decide +kernel
theorem dJ7_checkLength_df160_33 : decode cJ7_checkLength_df160 33 = .ok (.invokespecial 65, 3) := by decide +kernel
theorem dJ7_checkLength_df160_36 : decode cJ7_checkLength_df160 36 = .ok (.athrow, 1) := by decide +kernel
theorem dJ7_checkLength_df160_37 : decode cJ7_checkLength_df160 37 = .ok (.return_, 1) := by decide +kernel
set_option maxRecDepth 20000 in
theorem ggJ7_copyOfRange_39247_J7_copyOfRangeByte_39247 : GoodIn wsJ7_copyOfRange_39247 wsJ7_copyOfRangeByte_39247 := goodIn_r _ [10, 11, 12, 13, 14, 15, 16, 17, 18, 19, 20, 21, 9, 22, 23, 24, 25, 26, 27, 28, 29] (by decide +kernel) (by decide +kernel)
set_option maxRecDepth 20000 in
theorem gJ7_copyOfRange_39247_J7_copyOfRangeByte_39247 : GoodIn wsJ7_copyOfRange_39247 (va_wsS RJ7 339 yJ7_copyOfRangeByte_39247 wsJ7_copyOfRangeByte_39247) := goodIn_app (goodIn_of _ (by decide +kernel)) ggJ7_copyOfRange_39247_J7_copyOfRangeByte_39247
theorem dJ7_copyOfRange_39247_0 : decode cJ7_copyOfRange_39247 0 = .ok (.iload_n 1, 1) := by decide +kernel
theorem dJ7_copyOfRange_39247_1 : decode cJ7_copyOfRange_39247 1 = .ok (.ifCond .ne 9, 3) := by decide +kernel
theorem dJ7_copyOfRange_39247_4 : decode cJ7_copyOfRange_39247 4 = .ok (.iload_n 2, 1) := by decide +kernel
theorem dJ7_copyOfRange_39247_5 : decode cJ7_copyOfRange_39247 5 = .ok (.aload_n 0, 1) := by decide +kernel
theorem dJ7_copyOfRange_39247_6 : decode cJ7_copyOfRange_39247 6 = .ok (.arraylength, 1) := by decide +kernel
theorem dJ7_copyOfRange_39247_7 : decode cJ7_copyOfRange_39247 7 = .ok (.if_icmp .eq 10, 3) := by decide +kernel
theorem dJ7_copyOfRange_39247_10 : decode cJ7_copyOfRange_39247 10 = .ok (.aload_n 0, 1) := by decide +kernel
theorem dJ7_copyOfRange_39247_11 : decode cJ7_copyOfRange_39247 11 = .ok (.iload_n 1, 1) := by decide +kernel
theorem dJ7_copyOfRange_39247_12 : decode cJ7_copyOfRange_39247 12 = .ok (.iload_n 2, 1) := by decide +kernel
theorem dJ7_copyOfRange_39247_13 : decode cJ7_copyOfRange_39247 13 = .ok (.invokestatic 339, 3) := by decide +kernel
theorem dJ7_copyOfRange_39247_16 : decode cJ7_copyOfRange_39247 16 = .ok (.areturn, 1) := by decide +kernel
theorem dJ7_copyOfRange_39247_17 : decode cJ7_copyOfRange_39247 17 = .ok (.aload_n 0, 1) := by decide +kernel
theorem dJ7_copyOfRange_39247_18 : decode cJ7_copyOfRange_39247 18 = .ok (.invokevirtual 310, 3) := by decide +kernel
theorem dJ7_copyOfRange_39247_21 : decode cJ7_copyOfRange_39247 21 = .ok (.checkcast 311, 3) := by decide +kernel
theorem dJ7_copyOfRange_39247_24 : decode cJ7_copyOfRange_39247 24 = .ok (.areturn, 1) := by decide +kernel
set_option maxRecDepth 20000 in
theorem ggJ7_copyOfRangeByte_39247_J7_checkLength_df160 : GoodIn wsJ7_copyOfRangeByte_39247 wsJ7_checkLength_df160 := goodIn_r _ [13, 14, 15, 16, 17, 18, 19, 20] (by decide +kernel) (by decide +kernel)
set_option maxRecDepth 20000 in
theorem gJ7_copyOfRangeByte_39247_J7_checkLength_df160 : GoodIn wsJ7_copyOfRangeByte_39247 (va_wsS RJ7 343 yJ7_checkLength_df160 wsJ7_checkLength_df160) := goodIn_app (goodIn_of _ (by decide +kernel)) ggJ7_copyOfRangeByte_39247_J7_checkLength_df160
theorem dJ7_copyOfRangeByte_39247_0 : decode cJ7_copyOfRangeByte_39247 0 = .ok (.iload_n 1, 1) := by decide +kernel
theorem dJ7_copyOfRangeByte_39247_1 : decode cJ7_copyOfRangeByte_39247 1 = .ok (.iload_n 2, 1) := by decide +kernel
theorem dJ7_copyOfRangeByte_39247_2 : decode cJ7_copyOfRangeByte_39247 2 = .ok (.invokestatic 343, 3) := by decide +kernel
theorem dJ7_copyOfRangeByte_39247_5 : decode cJ7_copyOfRangeByte_39247 5 = .ok (.iload_n 2, 1) := by decide +kernel
theorem dJ7_copyOfRangeByte_39247_6 : decode cJ7_copyOfRangeByte_39247 6 = .ok (.iload_n 1, 1) := by decide +kernel
theorem dJ7_copyOfRangeByte_39247_7 : decode cJ7_copyOfRangeByte_39247 7 = .ok (.isub, 1) := by decide +kernel
theorem dJ7_copyOfRangeByte_39247_8 : decode cJ7_copyOfRangeByte_39247 8 = .ok (.istore_n 3, 1) := by decide +kernel
theorem dJ7_copyOfRangeByte_39247_9 : decode cJ7_copyOfRangeByte_39247 9 = .ok (.iload_n 3, 1) := by decide +kernel
theorem dJ7_copyOfRangeByte_39247_10 : decode cJ7_copyOfRangeByte_39247 10 = .ok (.newarray .byte, 2) := by decide +kernel
theorem dJ7_copyOfRangeByte_39247_12 : decode cJ7_copyOfRangeByte_39247 12 = .ok (.astore 4, 2) := by decide +kernel
theorem dJ7_copyOfRangeByte_39247_14 : decode cJ7_copyOfRangeByte_39247 14 = .ok (.aload_n 0, 1) := by decide +kernel
theorem dJ7_copyOfRangeByte_39247_15 : decode cJ7_copyOfRangeByte_39247 15 = .ok (.iload_n 1, 1) := by decide +kernel
theorem dJ7_copyOfRangeByte_39247_16 : decode cJ7_copyOfRangeByte_39247 16 = .ok (.aload 4, 2) := by decide +kernel
theorem dJ7_copyOfRangeByte_39247_18 : decode cJ7_copyOfRangeByte_39247 18 = .ok (.iconst 0, 1) := by decide +kernel
theorem dJ7_copyOfRangeByte_39247_19 : decode cJ7_copyOfRangeByte_39247 19 = .ok (.aload_n 0, 1) := by decide +kernel
theorem dJ7_copyOfRangeByte_39247_20 : decode cJ7_copyOfRangeByte_39247 20 = .ok (.arraylength, 1) := by decide +kernel
theorem dJ7_copyOfRangeByte_39247_21 : decode cJ7_copyOfRangeByte_39247 21 = .ok (.iload_n 1, 1) := by decide +kernel
theorem dJ7_copyOfRangeByte_39247_22 : decode cJ7_copyOfRangeByte_39247 22 = .ok (.isub, 1) := by decide +kernel
theorem dJ7_copyOfRangeByte_39247_23 : decode cJ7_copyOfRangeByte_39247 23 = .ok (.iload_n 3, 1) := by decide +kernel
theorem dJ7_copyOfRangeByte_39247_24 : decode cJ7_copyOfRangeByte_39247 24 = .ok (.invokestatic 304, 3) := by decide +kernel
theorem dJ7_copyOfRangeByte_39247_27 : decode cJ7_copyOfRangeByte_39247 27 = .ok (.invokestatic 150, 3) := by decide +kernel
theorem dJ7_copyOfRangeByte_39247_30 : decode cJ7_copyOfRangeByte_39247 30 = .ok (.aload 4, 2) := by decide +kernel
theorem dJ7_copyOfRangeByte_39247_32 : decode cJ7_copyOfRangeByte_39247 32 = .ok (.areturn, 1) := by decide +kernel
set_option maxRecDepth 20000 in
theorem ggJ8_newLength_cabcc_J8_hugeLength_7cf53 : GoodIn wsJ8_newLength_cabcc wsJ8_hugeLength_7cf53 := goodIn_r _ [9, 5] (by decide +kernel) (by decide +kernel)
set_option maxRecDepth 20000 in
theorem gJ8_newLength_cabcc_J8_hugeLength_7cf53 : GoodIn wsJ8_newLength_cabcc (va_wsS RJ8 201 yJ8_hugeLength_7cf53 wsJ8_hugeLength_7cf53) := goodIn_app (goodIn_of _ (by decide +kernel)) ggJ8_newLength_cabcc_J8_hugeLength_7cf53
theorem dJ8_newLength_cabcc_0 : decode cJ8_newLength_cabcc 0 = .ok (.iload_n 0, 1) := by decide +kernel
theorem dJ8_newLength_cabcc_1 : decode cJ8_newLength_cabcc 1 = .ok (.iload_n 1, 1) := by decide +kernel
theorem dJ8_newLength_cabcc_2 : decode cJ8_newLength_cabcc 2 = .ok (.iload_n 2, 1) := by decide +kernel
theorem dJ8_newLength_cabcc_3 : decode cJ8_newLength_cabcc 3 = .ok (.invokestatic 194, 3) := by decide +kernel
theorem dJ8_newLength_cabcc_6 : decode cJ8_newLength_cabcc 6 = .ok (.iadd, 1) := by decide +kernel
theorem dJ8_newLength_cabcc_7 : decode cJ8_newLength_cabcc 7 = .ok (.istore_n 3, 1) := by decide +kernel
theorem dJ8_newLength_cabcc_8 : decode cJ8_newLength_cabcc 8 = .ok (.iconst 0, 1) := by decide +kernel
theorem dJ8_newLength_cabcc_9 : decode cJ8_newLength_cabcc 9 = .ok (.iload_n 3, 1) := by decide +kernel
theorem dJ8_newLength_cabcc_10 : decode cJ8_newLength_cabcc 10 = .ok (.if_icmp .ge 11, 3) := by decide +kernel
theorem dJ8_newLength_cabcc_13 : decode cJ8_newLength_cabcc 13 = .ok (.iload_n 3, 1) := by decide +kernel
theorem dJ8_newLength_cabcc_14 : decode cJ8_newLength_cabcc 14 = .ok (.ldc 200, 2) := by decide +kernel
theorem dJ8_newLength_cabcc_16 : decode cJ8_newLength_cabcc 16 = .ok (.if_icmp .gt 5, 3) := by decide +kernel
theorem dJ8_newLength_cabcc_19 : decode cJ8_newLength_cabcc 19 = .ok (.iload_n 3, 1) := by decide +kernel
theorem dJ8_newLength_cabcc_20 : decode cJ8_newLength_cabcc 20 = .ok (.ireturn, 1) := by decide +kernel
theorem dJ8_newLength_cabcc_21 : decode cJ8_newLength_cabcc 21 = .ok (.iload_n 0, 1) := by decide +kernel
theorem dJ8_newLength_cabcc_22 : decode cJ8_newLength_cabcc 22 = .ok (.iload_n 1, 1) := by decide +kernel
theorem dJ8_newLength_cabcc_23 : decode cJ8_newLength_cabcc 23 = .ok (.invokestatic 201, 3) := by decide +kernel
theorem dJ8_newLength_cabcc_26 : decode cJ8_newLength_cabcc 26 = .ok (.ireturn, 1) := by decide +kernel
theorem dJ8_hugeLength_7cf53_0 : decode cJ8_hugeLength_7cf53 0 = .ok (.iload_n 0, 1) := by decide +kernel
theorem dJ8_hugeLength_7cf53_1 : decode cJ8_hugeLength_7cf53 1 = .ok (.iload_n 1, 1) := by decide +kernel
theorem dJ8_hugeLength_7cf53_2 : decode cJ8_hugeLength_7cf53 2 = .ok (.iadd, 1) := by decide +kernel
theorem dJ8_hugeLength_7cf53_3 : decode cJ8_hugeLength_7cf53 3 = .ok (.istore_n 2, 1) := by decide +kernel
theorem dJ8_hugeLength_7cf53_4 : decode cJ8_hugeLength_7cf53 4 = .ok (.iload_n 2, 1) := by decide +kernel
theorem dJ8_hugeLength_7cf53_5 : decode cJ8_hugeLength_7cf53 5 = .ok (.ifCond .ge 44, 3) := by decide +kernel
theorem dJ8_hugeLength_7cf53_8 : decode cJ8_hugeLength_7cf53 8 = .ok (.new 204, 3) := by decide +kernel
theorem dJ8_hugeLength_7cf53_11 : decode cJ8_hugeLength_7cf53 11 = .ok (.dup, 1) := by decide +kernel
theorem dJ8_hugeLength_7cf53_12 : decode cJ8_hugeLength_7cf53 12 = .ok (.new 89, 3) := by decide +kernel
theorem dJ8_hugeLength_7cf53_15 : decode cJ8_hugeLength_7cf53 15 = .ok (.dup, 1) := by decide +kernel
theorem dJ8_hugeLength_7cf53_16 : decode cJ8_hugeLength_7cf53 16 = .ok (.invokespecial 91, 3) := by decide +kernel
theorem dJ8_hugeLength_7cf53_19 : decode cJ8_hugeLength_7cf53 19 = .ok (.ldc 206, 2) := by decide +kernel
theorem dJ8_hugeLength_7cf53_21 : decode cJ8_hugeLength_7cf53 21 = .ok (.invokevirtual 94, 3) := by decide +kernel
theorem dJ8_hugeLength_7cf53_24 : decode cJ8_hugeLength_7cf53 24 = .ok (.iload_n 0, 1) := by decide +kernel
theorem dJ8_hugeLength_7cf53_25 : decode cJ8_hugeLength_7cf53 25 = .ok (.invokevirtual 98, 3) := by decide +kernel
theorem dJ8_hugeLength_7cf53_28 : decode cJ8_hugeLength_7cf53 28 = .ok (.ldc 208, 2) := by decide +kernel
theorem dJ8_hugeLength_7cf53_30 : decode cJ8_hugeLength_7cf53 30 = .ok (.invokevirtual 94, 3) := by decide +kernel
theorem dJ8_hugeLength_7cf53_33 : decode cJ8_hugeLength_7cf53 33 = .ok (.iload_n 1, 1) := by decide +kernel
theorem dJ8_hugeLength_7cf53_34 : decode cJ8_hugeLength_7cf53 34 = .ok (.invokevirtual 98, 3) := by decide +kernel
theorem dJ8_hugeLength_7cf53_37 : decode cJ8_hugeLength_7cf53 37 = .ok (.ldc 210, 2) := by decide +kernel
theorem dJ8_hugeLength_7cf53_39 : decode cJ8_hugeLength_7cf53 39 = .ok (.invokevirtual 94, 3) := by decide +kernel
theorem dJ8_hugeLength_7cf53_42 : decode cJ8_hugeLength_7cf53 42 = .ok (.invokevirtual 101, 3) := by decide +kernel
theorem dJ8_hugeLength_7cf53_45 : decode cJ8_hugeLength_7cf53 45 = .ok (.invokespecial 212, 3) := by decide +kernel
theorem dJ8_hugeLength_7cf53_48 : decode cJ8_hugeLength_7cf53 48 = .ok (.athrow, 1) := by decide +kernel
theorem dJ8_hugeLength_7cf53_49 : decode cJ8_hugeLength_7cf53 49 = .ok (.iload_n 2, 1) := by decide +kernel
theorem dJ8_hugeLength_7cf53_50 : decode cJ8_hugeLength_7cf53 50 = .ok (.ldc 200, 2) := by decide +kernel
theorem dJ8_hugeLength_7cf53_52 : decode cJ8_hugeLength_7cf53 52 = .ok (.if_icmp .gt 6, 3) := by decide +kernel
theorem dJ8_hugeLength_7cf53_55 : decode cJ8_hugeLength_7cf53 55 = .ok (.ldc 200, 2) := by decide +kernel
theorem dJ8_hugeLength_7cf53_57 : decode cJ8_hugeLength_7cf53 57 = .ok (.ireturn, 1) := by decide +kernel
theorem dJ8_hugeLength_7cf53_58 : decode cJ8_hugeLength_7cf53 58 = .ok (.iload_n 2, 1) := by decide +kernel
theorem dJ8_hugeLength_7cf53_59 : decode cJ8_hugeLength_7cf53 59 = .ok (.ireturn, 1) := by decide +kernel
theorem dJ3_checkIndex_8e157_0 : decode cJ3_checkIndex_8e157 0 = .ok (.iload_n 0, 1) := by decide +kernel
theorem dJ3_checkIndex_8e157_1 : decode cJ3_checkIndex_8e157 1 = .ok (.ifCond .lt 8, 3) := by decide +kernel
theorem dJ3_checkIndex_8e157_4 : decode cJ3_checkIndex_8e157 4 = .ok (.iload_n 0, 1) := by decide +kernel
theorem dJ3_checkIndex_8e157_5 : decode cJ3_checkIndex_8e157 5 = .ok (.iload_n 1, 1) := by decide +kernel
theorem dJ3_checkIndex_8e157_6 : decode cJ3_checkIndex_8e157 6 = .ok (.if_icmp .lt 10, 3) := by decide +kernel
theorem dJ3_checkIndex_8e157_9 : decode cJ3_checkIndex_8e157 9 = .ok (.aload_n 2, 1) := by decide +kernel
theorem dJ3_checkIndex_8e157_10 : decode cJ3_checkIndex_8e157 10 = .ok (.iload_n 0, 1) := by decide +kernel
theorem dJ3_checkIndex_8e157_11 : decode cJ3_checkIndex_8e157 11 = .ok (.iload_n 1, 1) := by decide +kernel
theorem dJ3_checkIndex_8e157_12 : decode cJ3_checkIndex_8e157 12 = .ok (.invokestatic 95, 3) := by decide +kernel
theorem dJ3_checkIndex_8e157_15 : decode cJ3_checkIndex_8e157 15 = .ok (.athrow, 1) := by decide +kernel
theorem dJ3_checkIndex_8e157_16 : decode cJ3_checkIndex_8e157 16 = .ok (.iload_n 0, 1) := by decide +kernel
theorem dJ3_checkIndex_8e157_17 : decode cJ3_checkIndex_8e157 17 = .ok (.ireturn, 1) := by decide +kernel
theorem dJ3_checkFromToIndex_8c36e_0 : decode cJ3_checkFromToIndex_8c36e 0 = .ok (.iload_n 0, 1) := by decide +kernel
theorem dJ3_checkFromToIndex_8c36e_1 : decode cJ3_checkFromToIndex_8c36e 1 = .ok (.ifCond .lt 13, 3) := by decide +kernel
theorem dJ3_checkFromToIndex_8c36e_4 : decode cJ3_checkFromToIndex_8c36e 4 = .ok (.iload_n 0, 1) := by decide +kernel
theorem dJ3_checkFromToIndex_8c36e_5 : decode cJ3_checkFromToIndex_8c36e 5 = .ok (.iload_n 1, 1) := by decide +kernel
theorem dJ3_checkFromToIndex_8c36e_6 : decode cJ3_checkFromToIndex_8c36e 6 = .ok (.if_icmp .gt 8, 3) := by decide +kernel
theorem dJ3_checkFromToIndex_8c36e_9 : decode cJ3_checkFromToIndex_8c36e 9 = .ok (.iload_n 1, 1) := by decide +kernel
theorem dJ3_checkFromToIndex_8c36e_10 : decode cJ3_checkFromToIndex_8c36e 10 = .ok (.iload_n 2, 1) := by decide +kernel
theorem dJ3_checkFromToIndex_8c36e_11 : decode cJ3_checkFromToIndex_8c36e 11 = .ok (.if_icmp .le 11, 3) := by decide +kernel
theorem dJ3_checkFromToIndex_8c36e_14 : decode cJ3_checkFromToIndex_8c36e 14 = .ok (.aload_n 3, 1) := by decide +kernel
theorem dJ3_checkFromToIndex_8c36e_15 : decode cJ3_checkFromToIndex_8c36e 15 = .ok (.iload_n 0, 1) := by decide +kernel
theorem dJ3_checkFromToIndex_8c36e_16 : decode cJ3_checkFromToIndex_8c36e 16 = .ok (.iload_n 1, 1) := by decide +kernel
theorem dJ3_checkFromToIndex_8c36e_17 : decode cJ3_checkFromToIndex_8c36e 17 = .ok (.iload_n 2, 1) := by decide +kernel
theorem dJ3_checkFromToIndex_8c36e_18 : decode cJ3_checkFromToIndex_8c36e 18 = .ok (.invokestatic 99, 3) := by decide +kernel
theorem dJ3_checkFromToIndex_8c36e_21 : decode cJ3_checkFromToIndex_8c36e 21 = .ok (.athrow, 1) := by decide +kernel
theorem dJ3_checkFromToIndex_8c36e_22 : decode cJ3_checkFromToIndex_8c36e 22 = .ok (.iload_n 0, 1) := by decide +kernel
theorem dJ3_checkFromToIndex_8c36e_23 : decode cJ3_checkFromToIndex_8c36e 23 = .ok (.ireturn, 1) := by decide +kernel
theorem dJ3_checkFromIndexSize_8c36e_0 : decode cJ3_checkFromIndexSize_8c36e 0 = .ok (.iload_n 2, 1) := by decide +kernel
theorem dJ3_checkFromIndexSize_8c36e_1 : decode cJ3_checkFromIndexSize_8c36e 1 = .ok (.iload_n 0, 1) := by decide +kernel
theorem dJ3_checkFromIndexSize_8c36e_2 : decode cJ3_checkFromIndexSize_8c36e 2 = .ok (.ior, 1) := by decide +kernel
theorem dJ3_checkFromIndexSize_8c36e_3 : decode cJ3_checkFromIndexSize_8c36e 3 = .ok (.iload_n 1, 1) := by decide +kernel
theorem dJ3_checkFromIndexSize_8c36e_4 : decode cJ3_checkFromIndexSize_8c36e 4 = .ok (.ior, 1) := by decide +kernel
theorem dJ3_checkFromIndexSize_8c36e_5 : decode cJ3_checkFromIndexSize_8c36e 5 = .ok (.ifCond .lt 10, 3) := by decide +kernel
theorem dJ3_checkFromIndexSize_8c36e_8 : decode cJ3_checkFromIndexSize_8c36e 8 = .ok (.iload_n 1, 1) := by decide +kernel
theorem dJ3_checkFromIndexSize_8c36e_9 : decode cJ3_checkFromIndexSize_8c36e 9 = .ok (.iload_n 2, 1) := by decide +kernel
theorem dJ3_checkFromIndexSize_8c36e_10 : decode cJ3_checkFromIndexSize_8c36e 10 = .ok (.iload_n 0, 1) := by decide +kernel
theorem dJ3_checkFromIndexSize_8c36e_11 : decode cJ3_checkFromIndexSize_8c36e 11 = .ok (.isub, 1) := by decide +kernel
theorem dJ3_checkFromIndexSize_8c36e_12 : decode cJ3_checkFromIndexSize_8c36e 12 = .ok (.if_icmp .le 11, 3) := by decide +kernel
theorem dJ3_checkFromIndexSize_8c36e_15 : decode cJ3_checkFromIndexSize_8c36e 15 = .ok (.aload_n 3, 1) := by decide +kernel
theorem dJ3_checkFromIndexSize_8c36e_16 : decode cJ3_checkFromIndexSize_8c36e 16 = .ok (.iload_n 0, 1) := by decide +kernel
theorem dJ3_checkFromIndexSize_8c36e_17 : decode cJ3_checkFromIndexSize_8c36e 17 = .ok (.iload_n 1, 1) := by decide +kernel
theorem dJ3_checkFromIndexSize_8c36e_18 : decode cJ3_checkFromIndexSize_8c36e 18 = .ok (.iload_n 2, 1) := by decide +kernel
theorem dJ3_checkFromIndexSize_8c36e_19 : decode cJ3_checkFromIndexSize_8c36e 19 = .ok (.invokestatic 103, 3) := by decide +kernel
theorem dJ3_checkFromIndexSize_8c36e_22 : decode cJ3_checkFromIndexSize_8c36e 22 = .ok (.athrow, 1) := by decide +kernel
theorem dJ3_checkFromIndexSize_8c36e_23 : decode cJ3_checkFromIndexSize_8c36e 23 = .ok (.iload_n 0, 1) := by decide +kernel
theorem dJ3_checkFromIndexSize_8c36e_24 : decode cJ3_checkFromIndexSize_8c36e 24 = .ok (.ireturn, 1) := by decide +kernel
set_option maxRecDepth 20000 in
theorem ggL_parseSetup_X9_parseSetup : GoodIn wsL_parseSetup wsX9_parseSetup := goodIn_ca (goodIn_ca (goodIn_ca (goodIn_r _ [6, 7, 8, 9, 10, 11, 12, 13, 14, 15, 16, 17, 18, 19, 20, 21, 22, 23, 24, 25, 26, 27, 28, 29, 30, 31, 32, 33, 34, 35, 36, 37, 38, 39, 40, 41, 42, 43, 44, 45, 46, 47, 48, 49, 50, 51, 52, 53, 54, 55, 56, 57, 58, 59, 60, 61, 62, 63, 64, 65, 66, 67, 68, 69, 70, 71, 72, 73, 74, 75, 76, 77, 78, 79, 80, 81, 82, 83, 84, 85, 86, 87, 88, 89, 90, 91, 92, 93, 94, 95, 96, 97, 98, 99, 100, 101, 102, 103, 104, 5, 105, 106, 107, 108, 109, 110, 111, 112, 113, 114, 115, 116, 117, 118, 119, 120, 121, 122, 123, 124, 125, 126, 127, 128, 129, 130, 131, 132, 133, 134, 135, 136, 137, 138, 139, 140, 141, 142, 143, 144, 145, 146, 147, 148, 149, 150, 151, 152, 153, 154, 155, 156, 157, 158, 159, 160, 161, 162, 163, 164, 165, 166, 167, 168, 169, 170, 171, 172, 173, 174, 175, 176, 177, 178, 179, 180, 181, 182, 183, 184, 185, 186, 187, 188, 189, 190, 191, 192, 193, 194, 195, 196, 197, 198, 199, 200, 201, 202, 203, 204, 205, 206, 207, 208, 209, 210, 211, 212, 213, 214, 215, 216, 217, 218, 219, 220, 221, 222, 223, 224, 225, 226, 227, 228, 229, 230, 231, 232, 233, 234, 235, 236, 237, 238, 239, 240, 241, 242, 243, 244, 245, 246, 247, 248, 249, 250, 251, 252, 253, 254, 255, 256, 257, 258, 259, 260, 261, 262, 263, 264, 265, 266, 267, 268, 269, 270, 271, 272, 273, 274, 275, 276, 277, 278, 279, 280, 281, 282, 283, 284, 285, 286, 287, 288, 289, 290, 291, 292, 293, 294, 295, 296, 297, 298, 299, 300, 301, 302, 303, 304, 305, 306, 307, 308, 309, 310, 311, 312, 313, 314, 315, 316, 317, 318, 319, 320, 321, 322, 323, 324, 325, 326, 327, 328, 329, 330, 331, 332, 333, 334, 335, 336, 337, 338, 339, 340, 341, 342, 343, 344, 345, 346, 347, 348, 349, 350, 351, 352, 353, 354, 355, 356, 357, 358, 359, 360, 361, 362, 363, 364, 365, 366, 367, 368, 369, 370, 371, 372, 373, 374, 375, 376, 377, 378, 379, 380, 381, 382, 383, 384, 385, 386, 387, 388, 389, 390, 391, 392, 393, 394, 395, 396, 397, 398, 399, 400, 401, 402, 403, 404, 405, 406, 407, 408, 409, 410, 411, 412, 413, 414, 415, 416, 417, 418, 419, 420, 421, 422, 423, 424, 425, 426, 427, 428, 429, 430, 431, 432, 433, 434, 435, 436, 437, 438, 439, 440, 441, 442, 443, 444, 445, 446, 447, 448, 449, 450, 451, 452, 453, 454, 455, 456, 457, 458, 459, 460, 461, 462, 463, 464, 465, 466, 467, 468, 469, 470, 471, 472, 473, 474, 475, 476, 477, 478, 479, 480, 481, 482, 483, 484, 485, 486, 487, 488, 489, 490, 491, 492, 493, 494, 495, 496, 497, 498, 499, 500, 501, 502, 503, 504, 505, 506, 507, 508, 509, 510, 511, 512, 513, 514, 515, 516, 517, 518, 519, 520, 521, 522, 523, 524, 525, 526, 527, 528, 529, 530, 531, 532, 533, 534, 535, 536, 537, 538, 539, 540, 541, 542, 543, 544, 545, 546, 547, 548, 549, 550, 551, 552, 553, 554, 555, 556, 557, 558, 559, 560, 561, 562, 563, 564, 565, 566, 567, 568, 569, 570, 571, 572, 573, 574, 575, 576, 577, 578, 579, 580, 581, 582, 583, 584, 585, 586, 587, 588, 589, 590, 591, 592, 593, 594, 595, 596, 597, 598, 599, 600, 601, 602, 603, 604, 605, 606, 607, 608, 609, 610, 611, 612, 613, 614, 615, 616, 617, 618, 619, 620, 621, 622, 623, 624, 625, 626, 627, 628, 629, 630, 631, 632, 633, 634, 635, 636, 637, 638, 639, 640, 641, 642, 643] (by decide +kernel) (by decide +kernel)) (goodIn_sub (fun _ h => List.mem_cons_of_mem _ (List.mem_append_left _ (List.mem_append_right _ h))) (by decide +kernel))) (goodIn_sub (fun _ h => List.mem_cons_of_mem _ (List.mem_append_right _ h)) (by decide +kernel))) (goodIn_sub (fun _ h => List.mem_cons_of_mem _ (List.mem_append_left _ (List.mem_append_left _ (List.mem_append_right _ h)))) (by decide +kernel))
set_option maxRecDepth 20000 in
theorem gL_parseSetup_X9_parseSetup : GoodIn wsL_parseSetup (wsV RL 7 RX9 yX9_parseSetup wsX9_parseSetup) := goodIn_app (goodIn_of _ (by decide +kernel)) ggL_parseSetup_X9_parseSetup
theorem dL_parseSetup_0 : decode cL_parseSetup 0 = .ok (.aload_n 2, 1) := by decide +kernel
theorem dL_parseSetup_1 : decode cL_parseSetup 1 = .ok (.iconst 0, 1) := by decide +kernel
theorem dL_parseSetup_2 : decode cL_parseSetup 2 = .ok (.aload_n 0, 1) := by decide +kernel
theorem dL_parseSetup_3 : decode cL_parseSetup 3 = .ok (.iload_n 1, 1) := by decide +kernel
theorem dL_parseSetup_4 : decode cL_parseSetup 4 = .ok (.invokevirtual 7, 3) := by decide +kernel
theorem dL_parseSetup_7 : decode cL_parseSetup 7 = .ok (.i2l, 1) := by decide +kernel
theorem dL_parseSetup_8 : decode cL_parseSetup 8 = .ok (.lastore, 1) := by decide +kernel
theorem dL_parseSetup_9 : decode cL_parseSetup 9 = .ok (.goto 9, 3) := by decide +kernel
theorem dL_parseSetup_12 : decode cL_parseSetup 12 = .ok (.astore_n 3, 1) := by decide +kernel
theorem dL_parseSetup_13 : decode cL_parseSetup 13 = .ok (.iconst 1, 1) := by decide +kernel
theorem dL_parseSetup_14 : decode cL_parseSetup 14 = .ok (.ireturn, 1) := by decide +kernel
theorem dL_parseSetup_15 : decode cL_parseSetup 15 = .ok (.astore_n 3, 1) := by decide +kernel
theorem dL_parseSetup_16 : decode cL_parseSetup 16 = .ok (.iconst 2, 1) := by decide +kernel
theorem dL_parseSetup_17 : decode cL_parseSetup 17 = .ok (.ireturn, 1) := by decide +kernel
theorem dL_parseSetup_18 : decode cL_parseSetup 18 = .ok (.iconst 0, 1) := by decide +kernel
theorem dL_parseSetup_19 : decode cL_parseSetup 19 = .ok (.ireturn, 1) := by decide +kernel
set_option maxRecDepth 20000 in
theorem ggL_rows_X9_rows : GoodIn wsL_rows wsX9_rows := goodIn_ca (goodIn_r _ [6, 7, 8, 9, 10, 11, 12, 5, 13, 14, 15, 16, 17, 18, 19, 20, 21, 22, 23, 24, 25, 26, 27, 28, 29, 30, 31, 32, 33, 34, 35, 36, 37, 38, 39, 40, 41, 42, 43, 44, 45, 46, 47, 48, 49, 50, 51] (by decide +kernel) (by decide +kernel)) (goodIn_sub (fun _ h => List.mem_cons_of_mem _ (List.mem_append_right _ h)) (by decide +kernel))
set_option maxRecDepth 20000 in
theorem gL_rows_X9_rows : GoodIn wsL_rows (wsV RL 17 RX9 yX9_rows wsX9_rows) := goodIn_app (goodIn_of _ (by decide +kernel)) ggL_rows_X9_rows
theorem dL_rows_0 : decode cL_rows 0 = .ok (.aload_n 1, 1) := by decide +kernel
theorem dL_rows_1 : decode cL_rows 1 = .ok (.iconst 0, 1) := by decide +kernel
theorem dL_rows_2 : decode cL_rows 2 = .ok (.aload_n 0, 1) := by decide +kernel
theorem dL_rows_3 : decode cL_rows 3 = .ok (.invokevirtual 17, 3) := by decide +kernel
theorem dL_rows_6 : decode cL_rows 6 = .ok (.i2l, 1) := by decide +kernel
theorem dL_rows_7 : decode cL_rows 7 = .ok (.lastore, 1) := by decide +kernel
theorem dL_rows_8 : decode cL_rows 8 = .ok (.goto 6, 3) := by decide +kernel
theorem dL_rows_11 : decode cL_rows 11 = .ok (.astore_n 2, 1) := by decide +kernel
theorem dL_rows_12 : decode cL_rows 12 = .ok (.iconst 1, 1) := by decide +kernel
theorem dL_rows_13 : decode cL_rows 13 = .ok (.ireturn, 1) := by decide +kernel
theorem dL_rows_14 : decode cL_rows 14 = .ok (.iconst 0, 1) := by decide +kernel
theorem dL_rows_15 : decode cL_rows 15 = .ok (.ireturn, 1) := by decide +kernel
set_option maxRecDepth 20000 in
theorem ggL_columns_X9_columns : GoodIn wsL_columns wsX9_columns := goodIn_ca (goodIn_r _ [6, 7, 8, 9, 10, 11, 12, 5, 13, 14, 15, 16, 17, 18, 19, 20, 21, 22, 23, 24, 25, 26, 27, 28, 29, 30, 31, 32, 33, 34, 35, 36, 37, 38, 39, 40, 41, 42, 43, 44, 45, 46, 47, 48, 49, 50, 51] (by decide +kernel) (by decide +kernel)) (goodIn_sub (fun _ h => List.mem_cons_of_mem _ (List.mem_append_right _ h)) (by decide +kernel))
set_option maxRecDepth 20000 in
theorem gL_columns_X9_columns : GoodIn wsL_columns (wsV RL 23 RX9 yX9_columns wsX9_columns) := goodIn_app (goodIn_of _ (by decide +kernel)) ggL_columns_X9_columns
theorem dL_columns_0 : decode cL_columns 0 = .ok (.aload_n 1, 1) := by decide +kernel
theorem dL_columns_1 : decode cL_columns 1 = .ok (.iconst 0, 1) := by decide +kernel
theorem dL_columns_2 : decode cL_columns 2 = .ok (.aload_n 0, 1) := by decide +kernel
theorem dL_columns_3 : decode cL_columns 3 = .ok (.invokevirtual 23, 3) := by decide +kernel
theorem dL_columns_6 : decode cL_columns 6 = .ok (.i2l, 1) := by decide +kernel
theorem dL_columns_7 : decode cL_columns 7 = .ok (.lastore, 1) := by decide +kernel
theorem dL_columns_8 : decode cL_columns 8 = .ok (.goto 6, 3) := by decide +kernel
theorem dL_columns_11 : decode cL_columns 11 = .ok (.astore_n 2, 1) := by decide +kernel
theorem dL_columns_12 : decode cL_columns 12 = .ok (.iconst 1, 1) := by decide +kernel
theorem dL_columns_13 : decode cL_columns 13 = .ok (.ireturn, 1) := by decide +kernel
theorem dL_columns_14 : decode cL_columns 14 = .ok (.iconst 0, 1) := by decide +kernel
theorem dL_columns_15 : decode cL_columns 15 = .ok (.ireturn, 1) := by decide +kernel
set_option maxRecDepth 20000 in
theorem ggL_minutesPerRow_X9_minutesPerRow : GoodIn wsL_minutesPerRow wsX9_minutesPerRow := goodIn_ca (goodIn_r _ [6, 7, 8, 9, 10, 11, 12, 5, 13, 14, 15, 16, 17, 18, 19, 20, 21, 22, 23, 24, 25, 26, 27, 28, 29, 30, 31, 32, 33, 34, 35, 36, 37, 38, 39, 40, 41, 42, 43, 44, 45, 46, 47, 48, 49, 50, 51] (by decide +kernel) (by decide +kernel)) (goodIn_sub (fun _ h => List.mem_cons_of_mem _ (List.mem_append_right _ h)) (by decide +kernel))
set_option maxRecDepth 20000 in
theorem gL_minutesPerRow_X9_minutesPerRow : GoodIn wsL_minutesPerRow (wsV RL 26 RX9 yX9_minutesPerRow wsX9_minutesPerRow) := goodIn_app (goodIn_of _ (by decide +kernel)) ggL_minutesPerRow_X9_minutesPerRow
theorem dL_minutesPerRow_0 : decode cL_minutesPerRow 0 = .ok (.aload_n 1, 1) := by decide +kernel
theorem dL_minutesPerRow_1 : decode cL_minutesPerRow 1 = .ok (.iconst 0, 1) := by decide +kernel
theorem dL_minutesPerRow_2 : decode cL_minutesPerRow 2 = .ok (.aload_n 0, 1) := by decide +kernel
theorem dL_minutesPerRow_3 : decode cL_minutesPerRow 3 = .ok (.invokevirtual 26, 3) := by decide +kernel
theorem dL_minutesPerRow_6 : decode cL_minutesPerRow 6 = .ok (.i2l, 1) := by decide +kernel
theorem dL_minutesPerRow_7 : decode cL_minutesPerRow 7 = .ok (.lastore, 1) := by decide +kernel
theorem dL_minutesPerRow_8 : decode cL_minutesPerRow 8 = .ok (.goto 6, 3) := by decide +kernel
theorem dL_minutesPerRow_11 : decode cL_minutesPerRow 11 = .ok (.astore_n 2, 1) := by decide +kernel
theorem dL_minutesPerRow_12 : decode cL_minutesPerRow 12 = .ok (.iconst 1, 1) := by decide +kernel
theorem dL_minutesPerRow_13 : decode cL_minutesPerRow 13 = .ok (.ireturn, 1) := by decide +kernel
theorem dL_minutesPerRow_14 : decode cL_minutesPerRow 14 = .ok (.iconst 0, 1) := by decide +kernel
theorem dL_minutesPerRow_15 : decode cL_minutesPerRow 15 = .ok (.ireturn, 1) := by decide +kernel
set_option maxRecDepth 20000 in
theorem ggL_night_X9_night : GoodIn wsL_night wsX9_night := goodIn_ca (goodIn_r _ [6, 7, 8, 9, 10, 11, 5, 12, 13, 14, 15, 16, 17, 18, 19, 20, 21, 22, 23, 24, 25, 26, 27, 28, 29, 30, 31, 32, 33, 34, 35, 36, 37] (by decide +kernel) (by decide +kernel)) (goodIn_sub (fun _ h => List.mem_cons_of_mem _ (List.mem_append_right _ h)) (by decide +kernel))
set_option maxRecDepth 20000 in
theorem gL_night_X9_night : GoodIn wsL_night (wsV RL 29 RX9 yX9_night wsX9_night) := goodIn_app (goodIn_of _ (by decide +kernel)) ggL_night_X9_night
theorem dL_night_0 : decode cL_night 0 = .ok (.aload_n 1, 1) := by decide +kernel
theorem dL_night_1 : decode cL_night 1 = .ok (.iconst 0, 1) := by decide +kernel
theorem dL_night_2 : decode cL_night 2 = .ok (.aload_n 0, 1) := by decide +kernel
theorem dL_night_3 : decode cL_night 3 = .ok (.invokevirtual 29, 3) := by decide +kernel
theorem dL_night_6 : decode cL_night 6 = .ok (.i2l, 1) := by decide +kernel
theorem dL_night_7 : decode cL_night 7 = .ok (.lastore, 1) := by decide +kernel
theorem dL_night_8 : decode cL_night 8 = .ok (.goto 6, 3) := by decide +kernel
theorem dL_night_11 : decode cL_night 11 = .ok (.astore_n 2, 1) := by decide +kernel
theorem dL_night_12 : decode cL_night 12 = .ok (.iconst 1, 1) := by decide +kernel
theorem dL_night_13 : decode cL_night 13 = .ok (.ireturn, 1) := by decide +kernel
theorem dL_night_14 : decode cL_night 14 = .ok (.iconst 0, 1) := by decide +kernel
theorem dL_night_15 : decode cL_night 15 = .ok (.ireturn, 1) := by decide +kernel
set_option maxRecDepth 20000 in
theorem ggL_minute_X9_minute : GoodIn wsL_minute wsX9_minute := goodIn_ca (goodIn_r _ [6, 7, 8, 9, 10, 11, 5, 12, 13, 14, 15, 16, 17, 18, 19, 20, 21, 22, 23, 24, 25, 26, 27, 28, 29, 30, 31, 32, 33, 34, 35, 36, 37] (by decide +kernel) (by decide +kernel)) (goodIn_sub (fun _ h => List.mem_cons_of_mem _ (List.mem_append_right _ h)) (by decide +kernel))
set_option maxRecDepth 20000 in
theorem gL_minute_X9_minute : GoodIn wsL_minute (wsV RL 32 RX9 yX9_minute wsX9_minute) := goodIn_app (goodIn_of _ (by decide +kernel)) ggL_minute_X9_minute
theorem dL_minute_0 : decode cL_minute 0 = .ok (.aload_n 1, 1) := by decide +kernel
theorem dL_minute_1 : decode cL_minute 1 = .ok (.iconst 0, 1) := by decide +kernel
theorem dL_minute_2 : decode cL_minute 2 = .ok (.aload_n 0, 1) := by decide +kernel
theorem dL_minute_3 : decode cL_minute 3 = .ok (.invokevirtual 32, 3) := by decide +kernel
theorem dL_minute_6 : decode cL_minute 6 = .ok (.i2l, 1) := by decide +kernel
theorem dL_minute_7 : decode cL_minute 7 = .ok (.lastore, 1) := by decide +kernel
theorem dL_minute_8 : decode cL_minute 8 = .ok (.goto 6, 3) := by decide +kernel
theorem dL_minute_11 : decode cL_minute 11 = .ok (.astore_n 2, 1) := by decide +kernel
theorem dL_minute_12 : decode cL_minute 12 = .ok (.iconst 1, 1) := by decide +kernel
theorem dL_minute_13 : decode cL_minute 13 = .ok (.ireturn, 1) := by decide +kernel
theorem dL_minute_14 : decode cL_minute 14 = .ok (.iconst 0, 1) := by decide +kernel
theorem dL_minute_15 : decode cL_minute 15 = .ok (.ireturn, 1) := by decide +kernel
set_option maxRecDepth 20000 in
theorem ggL_brightness_X9_brightness : GoodIn wsL_brightness wsX9_brightness := goodIn_ca (goodIn_r _ [6, 7, 8, 9, 10, 5, 11, 12, 13, 14, 15, 16, 17, 18, 19, 20, 21, 22, 23, 24, 25, 26, 27, 28, 29, 30, 31, 32, 33, 34, 35, 36, 37, 38, 39, 40, 41, 42] (by decide +kernel) (by decide +kernel)) (goodIn_sub (fun _ h => List.mem_cons_of_mem _ (List.mem_append_right _ h)) (by decide +kernel))
set_option maxRecDepth 20000 in
theorem gL_brightness_X9_brightness : GoodIn wsL_brightness (wsV RL 35 RX9 yX9_brightness wsX9_brightness) := goodIn_app (goodIn_of _ (by decide +kernel)) ggL_brightness_X9_brightness
theorem dL_brightness_0 : decode cL_brightness 0 = .ok (.aload_n 1, 1) := by decide +kernel
theorem dL_brightness_1 : decode cL_brightness 1 = .ok (.iconst 0, 1) := by decide +kernel
theorem dL_brightness_2 : decode cL_brightness 2 = .ok (.aload_n 0, 1) := by decide +kernel
theorem dL_brightness_3 : decode cL_brightness 3 = .ok (.invokevirtual 35, 3) := by decide +kernel
theorem dL_brightness_6 : decode cL_brightness 6 = .ok (.i2l, 1) := by decide +kernel
theorem dL_brightness_7 : decode cL_brightness 7 = .ok (.lastore, 1) := by decide +kernel
theorem dL_brightness_8 : decode cL_brightness 8 = .ok (.goto 6, 3) := by decide +kernel
theorem dL_brightness_11 : decode cL_brightness 11 = .ok (.astore_n 2, 1) := by decide +kernel
theorem dL_brightness_12 : decode cL_brightness 12 = .ok (.iconst 1, 1) := by decide +kernel
theorem dL_brightness_13 : decode cL_brightness 13 = .ok (.ireturn, 1) := by decide +kernel
theorem dL_brightness_14 : decode cL_brightness 14 = .ok (.iconst 0, 1) := by decide +kernel
theorem dL_brightness_15 : decode cL_brightness 15 = .ok (.ireturn, 1) := by decide +kernel
set_option maxRecDepth 20000 in
theorem ggL_moonRow_X9_moonRow : GoodIn wsL_moonRow wsX9_moonRow := goodIn_ca (goodIn_r _ [6, 7, 8, 9, 10, 5, 11, 12, 13, 14, 15, 16, 17, 18, 19, 20, 21, 22, 23, 24, 25, 26, 27, 28, 29, 30, 31, 32, 33, 34, 35, 36, 37, 38, 39, 40, 41, 42, 43, 44, 45, 46, 47, 48, 49, 50, 51, 52, 53, 54, 55, 56, 57] (by decide +kernel) (by decide +kernel)) (goodIn_sub (fun _ h => List.mem_cons_of_mem _ (List.mem_append_right _ h)) (by decide +kernel))
set_option maxRecDepth 20000 in
theorem gL_moonRow_X9_moonRow : GoodIn wsL_moonRow (wsV RL 38 RX9 yX9_moonRow wsX9_moonRow) := goodIn_app (goodIn_of _ (by decide +kernel)) ggL_moonRow_X9_moonRow
theorem dL_moonRow_0 : decode cL_moonRow 0 = .ok (.aload_n 1, 1) := by decide +kernel
theorem dL_moonRow_1 : decode cL_moonRow 1 = .ok (.iconst 0, 1) := by decide +kernel
theorem dL_moonRow_2 : decode cL_moonRow 2 = .ok (.aload_n 0, 1) := by decide +kernel
theorem dL_moonRow_3 : decode cL_moonRow 3 = .ok (.invokevirtual 38, 3) := by decide +kernel
theorem dL_moonRow_6 : decode cL_moonRow 6 = .ok (.i2l, 1) := by decide +kernel
theorem dL_moonRow_7 : decode cL_moonRow 7 = .ok (.lastore, 1) := by decide +kernel
theorem dL_moonRow_8 : decode cL_moonRow 8 = .ok (.goto 6, 3) := by decide +kernel
theorem dL_moonRow_11 : decode cL_moonRow 11 = .ok (.astore_n 2, 1) := by decide +kernel
theorem dL_moonRow_12 : decode cL_moonRow 12 = .ok (.iconst 1, 1) := by decide +kernel
theorem dL_moonRow_13 : decode cL_moonRow 13 = .ok (.ireturn, 1) := by decide +kernel
theorem dL_moonRow_14 : decode cL_moonRow 14 = .ok (.iconst 0, 1) := by decide +kernel
theorem dL_moonRow_15 : decode cL_moonRow 15 = .ok (.ireturn, 1) := by decide +kernel
set_option maxRecDepth 20000 in
theorem ggL_moonShines_X9_moonShines : GoodIn wsL_moonShines wsX9_moonShines := goodIn_ca (goodIn_ca (goodIn_r _ [6, 7, 8, 9, 10, 5, 11, 12, 13, 14, 15, 16, 17, 18, 19, 20, 21, 22, 23, 24, 25, 26, 27, 28, 29, 30, 31, 32, 33, 34, 35, 36, 37, 38, 39, 40, 41, 42, 43, 44, 45, 46, 47, 48, 49, 50, 51, 52, 53, 54, 55, 56, 57, 58, 59, 60, 61, 62, 63, 64, 65, 66, 67, 68, 69] (by decide +kernel) (by decide +kernel)) (goodIn_sub (fun _ h => List.mem_cons_of_mem _ (List.mem_append_right _ h)) (by decide +kernel))) (goodIn_sub (fun _ h => List.mem_cons_of_mem _ (List.mem_append_left _ (List.mem_append_right _ h))) (by decide +kernel))
set_option maxRecDepth 20000 in
theorem gL_moonShines_X9_moonShines : GoodIn wsL_moonShines (wsV RL 41 RX9 yX9_moonShines wsX9_moonShines) := goodIn_app (goodIn_of _ (by decide +kernel)) ggL_moonShines_X9_moonShines
theorem dL_moonShines_0 : decode cL_moonShines 0 = .ok (.aload_n 1, 1) := by decide +kernel
theorem dL_moonShines_1 : decode cL_moonShines 1 = .ok (.iconst 0, 1) := by decide +kernel
theorem dL_moonShines_2 : decode cL_moonShines 2 = .ok (.aload_n 0, 1) := by decide +kernel
theorem dL_moonShines_3 : decode cL_moonShines 3 = .ok (.invokevirtual 41, 3) := by decide +kernel
theorem dL_moonShines_6 : decode cL_moonShines 6 = .ok (.ifCond .eq 7, 3) := by decide +kernel
theorem dL_moonShines_9 : decode cL_moonShines 9 = .ok (.lconst 1, 1) := by decide +kernel
theorem dL_moonShines_10 : decode cL_moonShines 10 = .ok (.goto 4, 3) := by decide +kernel
theorem dL_moonShines_13 : decode cL_moonShines 13 = .ok (.lconst 0, 1) := by decide +kernel
theorem dL_moonShines_14 : decode cL_moonShines 14 = .ok (.lastore, 1) := by decide +kernel
theorem dL_moonShines_15 : decode cL_moonShines 15 = .ok (.goto 6, 3) := by decide +kernel
theorem dL_moonShines_18 : decode cL_moonShines 18 = .ok (.astore_n 2, 1) := by decide +kernel
theorem dL_moonShines_19 : decode cL_moonShines 19 = .ok (.iconst 1, 1) := by decide +kernel
theorem dL_moonShines_20 : decode cL_moonShines 20 = .ok (.ireturn, 1) := by decide +kernel
theorem dL_moonShines_21 : decode cL_moonShines 21 = .ok (.iconst 0, 1) := by decide +kernel
theorem dL_moonShines_22 : decode cL_moonShines 22 = .ok (.ireturn, 1) := by decide +kernel
set_option maxRecDepth 20000 in
theorem ggL_isLit_X9_isLit : GoodIn wsL_isLit wsX9_isLit := goodIn_ca (goodIn_ca (goodIn_ca (goodIn_r _ [6, 7, 8, 9, 10, 5, 11, 12, 13, 14, 15, 16, 17, 18, 19, 20, 21, 22, 23, 24, 25, 26, 27, 28, 29, 30, 31, 32, 33, 34, 35, 36, 37, 38, 39, 40, 41, 42, 43, 44, 45, 46, 47, 48, 49, 50, 51, 52, 53, 54, 55, 56, 57, 58, 59, 60, 61, 62, 63, 64, 65, 66, 67, 68, 69, 70, 71, 72, 73, 74, 75, 76, 77, 78, 79, 80, 81, 82, 83, 84, 85, 86, 87, 88, 89, 90, 91, 92, 93, 94, 95, 96, 97, 98, 99, 100, 101, 102, 103, 104, 105] (by decide +kernel) (by decide +kernel)) (goodIn_sub (fun _ h => List.mem_cons_of_mem _ (List.mem_append_left _ (List.mem_append_right _ h))) (by decide +kernel))) (goodIn_sub (fun _ h => List.mem_cons_of_mem _ (List.mem_append_right _ h)) (by decide +kernel))) (goodIn_sub (fun _ h => List.mem_cons_of_mem _ (List.mem_append_left _ (List.mem_append_left _ (List.mem_append_right _ h)))) (by decide +kernel))
set_option maxRecDepth 20000 in
theorem gL_isLit_X9_isLit : GoodIn wsL_isLit (wsV RL 45 RX9 yX9_isLit wsX9_isLit) := goodIn_app (goodIn_of _ (by decide +kernel)) ggL_isLit_X9_isLit
theorem dL_isLit_0 : decode cL_isLit 0 = .ok (.aload_n 2, 1) := by decide +kernel
theorem dL_isLit_1 : decode cL_isLit 1 = .ok (.iconst 0, 1) := by decide +kernel
theorem dL_isLit_2 : decode cL_isLit 2 = .ok (.aload_n 0, 1) := by decide +kernel
theorem dL_isLit_3 : decode cL_isLit 3 = .ok (.iload_n 1, 1) := by decide +kernel
theorem dL_isLit_4 : decode cL_isLit 4 = .ok (.invokevirtual 45, 3) := by decide +kernel
theorem dL_isLit_7 : decode cL_isLit 7 = .ok (.ifCond .eq 7, 3) := by decide +kernel
theorem dL_isLit_10 : decode cL_isLit 10 = .ok (.lconst 1, 1) := by decide +kernel
theorem dL_isLit_11 : decode cL_isLit 11 = .ok (.goto 4, 3) := by decide +kernel
theorem dL_isLit_14 : decode cL_isLit 14 = .ok (.lconst 0, 1) := by decide +kernel
theorem dL_isLit_15 : decode cL_isLit 15 = .ok (.lastore, 1) := by decide +kernel
theorem dL_isLit_16 : decode cL_isLit 16 = .ok (.goto 9, 3) := by decide +kernel
theorem dL_isLit_19 : decode cL_isLit 19 = .ok (.astore_n 3, 1) := by decide +kernel
theorem dL_isLit_20 : decode cL_isLit 20 = .ok (.iconst 1, 1) := by decide +kernel
theorem dL_isLit_21 : decode cL_isLit 21 = .ok (.ireturn, 1) := by decide +kernel
theorem dL_isLit_22 : decode cL_isLit 22 = .ok (.astore_n 3, 1) := by decide +kernel
theorem dL_isLit_23 : decode cL_isLit 23 = .ok (.iconst 2, 1) := by decide +kernel
theorem dL_isLit_24 : decode cL_isLit 24 = .ok (.ireturn, 1) := by decide +kernel
theorem dL_isLit_25 : decode cL_isLit 25 = .ok (.iconst 0, 1) := by decide +kernel
theorem dL_isLit_26 : decode cL_isLit 26 = .ok (.ireturn, 1) := by decide +kernel
set_option maxRecDepth 20000 in
theorem ggL_isCurtainClosed_X9_isCurtainClosed : GoodIn wsL_isCurtainClosed wsX9_isCurtainClosed := goodIn_ca (goodIn_ca (goodIn_ca (goodIn_r _ [6, 7, 8, 9, 10, 11, 5, 12, 13, 14, 15, 16, 17, 18, 19, 20, 21, 22, 23, 24, 25, 26, 27, 28, 29, 30, 31, 32, 33, 34, 35, 36, 37, 38, 39, 40, 41, 42, 43, 44, 45, 46, 47, 48, 49, 50, 51, 52, 53, 54, 55, 56, 57, 58, 59, 60, 61] (by decide +kernel) (by decide +kernel)) (goodIn_sub (fun _ h => List.mem_cons_of_mem _ (List.mem_append_left _ (List.mem_append_right _ h))) (by decide +kernel))) (goodIn_sub (fun _ h => List.mem_cons_of_mem _ (List.mem_append_right _ h)) (by decide +kernel))) (goodIn_sub (fun _ h => List.mem_cons_of_mem _ (List.mem_append_left _ (List.mem_append_left _ (List.mem_append_right _ h)))) (by decide +kernel))
set_option maxRecDepth 20000 in
theorem gL_isCurtainClosed_X9_isCurtainClosed : GoodIn wsL_isCurtainClosed (wsV RL 49 RX9 yX9_isCurtainClosed wsX9_isCurtainClosed) := goodIn_app (goodIn_of _ (by decide +kernel)) ggL_isCurtainClosed_X9_isCurtainClosed
theorem dL_isCurtainClosed_0 : decode cL_isCurtainClosed 0 = .ok (.aload_n 2, 1) := by decide +kernel
theorem dL_isCurtainClosed_1 : decode cL_isCurtainClosed 1 = .ok (.iconst 0, 1) := by decide +kernel
theorem dL_isCurtainClosed_2 : decode cL_isCurtainClosed 2 = .ok (.aload_n 0, 1) := by decide +kernel
theorem dL_isCurtainClosed_3 : decode cL_isCurtainClosed 3 = .ok (.iload_n 1, 1) := by decide +kernel
theorem dL_isCurtainClosed_4 : decode cL_isCurtainClosed 4 = .ok (.invokevirtual 49, 3) := by decide +kernel
theorem dL_isCurtainClosed_7 : decode cL_isCurtainClosed 7 = .ok (.ifCond .eq 7, 3) := by decide +kernel
theorem dL_isCurtainClosed_10 : decode cL_isCurtainClosed 10 = .ok (.lconst 1, 1) := by decide +kernel
theorem dL_isCurtainClosed_11 : decode cL_isCurtainClosed 11 = .ok (.goto 4, 3) := by decide +kernel
theorem dL_isCurtainClosed_14 : decode cL_isCurtainClosed 14 = .ok (.lconst 0, 1) := by decide +kernel
theorem dL_isCurtainClosed_15 : decode cL_isCurtainClosed 15 = .ok (.lastore, 1) := by decide +kernel
theorem dL_isCurtainClosed_16 : decode cL_isCurtainClosed 16 = .ok (.goto 9, 3) := by decide +kernel
theorem dL_isCurtainClosed_19 : decode cL_isCurtainClosed 19 = .ok (.astore_n 3, 1) := by decide +kernel
theorem dL_isCurtainClosed_20 : decode cL_isCurtainClosed 20 = .ok (.iconst 1, 1) := by decide +kernel
theorem dL_isCurtainClosed_21 : decode cL_isCurtainClosed 21 = .ok (.ireturn, 1) := by decide +kernel
theorem dL_isCurtainClosed_22 : decode cL_isCurtainClosed 22 = .ok (.astore_n 3, 1) := by decide +kernel
theorem dL_isCurtainClosed_23 : decode cL_isCurtainClosed 23 = .ok (.iconst 2, 1) := by decide +kernel
theorem dL_isCurtainClosed_24 : decode cL_isCurtainClosed 24 = .ok (.ireturn, 1) := by decide +kernel
theorem dL_isCurtainClosed_25 : decode cL_isCurtainClosed 25 = .ok (.iconst 0, 1) := by decide +kernel
theorem dL_isCurtainClosed_26 : decode cL_isCurtainClosed 26 = .ok (.ireturn, 1) := by decide +kernel
set_option maxRecDepth 20000 in
theorem ggL_draughtPeriod_X9_draughtPeriod : GoodIn wsL_draughtPeriod wsX9_draughtPeriod := goodIn_ca (goodIn_ca (goodIn_ca (goodIn_r _ [6, 7, 8, 9, 10, 11, 12, 5, 13, 14, 15, 16, 17, 18, 19, 20, 21, 22, 23, 24, 25, 26, 27, 28, 29, 30, 31, 32, 33, 34, 35, 36, 37, 38, 39, 40, 41, 42, 43, 44, 45, 46, 47, 48, 49, 50, 51, 52, 53, 54, 55, 56, 57, 58, 59, 60, 61] (by decide +kernel) (by decide +kernel)) (goodIn_sub (fun _ h => List.mem_cons_of_mem _ (List.mem_append_left _ (List.mem_append_right _ h))) (by decide +kernel))) (goodIn_sub (fun _ h => List.mem_cons_of_mem _ (List.mem_append_right _ h)) (by decide +kernel))) (goodIn_sub (fun _ h => List.mem_cons_of_mem _ (List.mem_append_left _ (List.mem_append_left _ (List.mem_append_right _ h)))) (by decide +kernel))
set_option maxRecDepth 20000 in
theorem gL_draughtPeriod_X9_draughtPeriod : GoodIn wsL_draughtPeriod (wsV RL 52 RX9 yX9_draughtPeriod wsX9_draughtPeriod) := goodIn_app (goodIn_of _ (by decide +kernel)) ggL_draughtPeriod_X9_draughtPeriod
theorem dL_draughtPeriod_0 : decode cL_draughtPeriod 0 = .ok (.aload_n 2, 1) := by decide +kernel
theorem dL_draughtPeriod_1 : decode cL_draughtPeriod 1 = .ok (.iconst 0, 1) := by decide +kernel
theorem dL_draughtPeriod_2 : decode cL_draughtPeriod 2 = .ok (.aload_n 0, 1) := by decide +kernel
theorem dL_draughtPeriod_3 : decode cL_draughtPeriod 3 = .ok (.iload_n 1, 1) := by decide +kernel
theorem dL_draughtPeriod_4 : decode cL_draughtPeriod 4 = .ok (.invokevirtual 52, 3) := by decide +kernel
theorem dL_draughtPeriod_7 : decode cL_draughtPeriod 7 = .ok (.i2l, 1) := by decide +kernel
theorem dL_draughtPeriod_8 : decode cL_draughtPeriod 8 = .ok (.lastore, 1) := by decide +kernel
theorem dL_draughtPeriod_9 : decode cL_draughtPeriod 9 = .ok (.goto 9, 3) := by decide +kernel
theorem dL_draughtPeriod_12 : decode cL_draughtPeriod 12 = .ok (.astore_n 3, 1) := by decide +kernel
theorem dL_draughtPeriod_13 : decode cL_draughtPeriod 13 = .ok (.iconst 1, 1) := by decide +kernel
theorem dL_draughtPeriod_14 : decode cL_draughtPeriod 14 = .ok (.ireturn, 1) := by decide +kernel
theorem dL_draughtPeriod_15 : decode cL_draughtPeriod 15 = .ok (.astore_n 3, 1) := by decide +kernel
theorem dL_draughtPeriod_16 : decode cL_draughtPeriod 16 = .ok (.iconst 2, 1) := by decide +kernel
theorem dL_draughtPeriod_17 : decode cL_draughtPeriod 17 = .ok (.ireturn, 1) := by decide +kernel
theorem dL_draughtPeriod_18 : decode cL_draughtPeriod 18 = .ok (.iconst 0, 1) := by decide +kernel
theorem dL_draughtPeriod_19 : decode cL_draughtPeriod 19 = .ok (.ireturn, 1) := by decide +kernel
set_option maxRecDepth 20000 in
theorem ggL_minutesUntilLit_X9_minutesUntilLit : GoodIn wsL_minutesUntilLit wsX9_minutesUntilLit := goodIn_ca (goodIn_ca (goodIn_ca (goodIn_r _ [6, 7, 8, 9, 10, 11, 5, 12, 13, 14, 15, 16, 17, 18, 19, 20, 21, 22, 23, 24, 25, 26, 27, 28, 29, 30, 31, 32, 33, 34, 35, 36, 37, 38, 39, 40, 41, 42, 43, 44, 45, 46, 47, 48, 49, 50, 51, 52, 53, 54, 55, 56, 57, 58, 59, 60, 61, 62, 63, 64, 65, 66, 67, 68, 69, 70, 71, 72, 73, 74, 75, 76, 77, 78, 79, 80, 81, 82, 83, 84, 85, 86, 87, 88, 89, 90, 91, 92, 93, 94, 95, 96, 97, 98, 99, 100, 101, 102, 103, 104, 105, 106, 107, 108, 109, 110, 111, 112, 113, 114, 115, 116, 117, 118, 119, 120, 121, 122, 123, 124, 125, 126, 127, 128, 129, 130, 131, 132, 133, 134, 135, 136, 137, 138, 139, 140, 141, 142, 143, 144, 145, 146, 147, 148, 149, 150, 151, 152, 153, 154, 155, 156, 157, 158, 159, 160, 161, 162, 163, 164, 165, 166, 167, 168, 169, 170, 171, 172, 173, 174, 175, 176, 177, 178, 179, 180, 181, 182, 183, 184, 185, 186, 187, 188, 189, 190, 191, 192, 193, 194, 195, 196, 197, 198, 199, 200, 201, 202, 203, 204, 205, 206, 207, 208, 209, 210, 211, 212, 213, 214, 215, 216, 217, 218, 219, 220, 221, 222, 223, 224, 225, 226, 227, 228, 229, 230, 231, 232, 233, 234, 235, 236, 237, 238, 239, 240, 241, 242, 243, 244, 245, 246, 247, 248, 249, 250, 251, 252, 253, 254, 255, 256, 257, 258, 259, 260, 261, 262, 263, 264, 265, 266, 267, 268, 269, 270, 271, 272, 273, 274, 275, 276, 277, 278, 279, 280, 281, 282, 283, 284, 285, 286, 287, 288, 289, 290, 291, 292, 293, 294, 295, 296, 297, 298] (by decide +kernel) (by decide +kernel)) (goodIn_sub (fun _ h => List.mem_cons_of_mem _ (List.mem_append_left _ (List.mem_append_right _ h))) (by decide +kernel))) (goodIn_sub (fun _ h => List.mem_cons_of_mem _ (List.mem_append_right _ h)) (by decide +kernel))) (goodIn_sub (fun _ h => List.mem_cons_of_mem _ (List.mem_append_left _ (List.mem_append_left _ (List.mem_append_right _ h)))) (by decide +kernel))
set_option maxRecDepth 20000 in
theorem gL_minutesUntilLit_X9_minutesUntilLit : GoodIn wsL_minutesUntilLit (wsV RL 55 RX9 yX9_minutesUntilLit wsX9_minutesUntilLit) := goodIn_app (goodIn_of _ (by decide +kernel)) ggL_minutesUntilLit_X9_minutesUntilLit
theorem dL_minutesUntilLit_0 : decode cL_minutesUntilLit 0 = .ok (.aload_n 2, 1) := by decide +kernel
theorem dL_minutesUntilLit_1 : decode cL_minutesUntilLit 1 = .ok (.iconst 0, 1) := by decide +kernel
theorem dL_minutesUntilLit_2 : decode cL_minutesUntilLit 2 = .ok (.aload_n 0, 1) := by decide +kernel
theorem dL_minutesUntilLit_3 : decode cL_minutesUntilLit 3 = .ok (.iload_n 1, 1) := by decide +kernel
theorem dL_minutesUntilLit_4 : decode cL_minutesUntilLit 4 = .ok (.invokevirtual 55, 3) := by decide +kernel
theorem dL_minutesUntilLit_7 : decode cL_minutesUntilLit 7 = .ok (.i2l, 1) := by decide +kernel
theorem dL_minutesUntilLit_8 : decode cL_minutesUntilLit 8 = .ok (.lastore, 1) := by decide +kernel
theorem dL_minutesUntilLit_9 : decode cL_minutesUntilLit 9 = .ok (.goto 9, 3) := by decide +kernel
theorem dL_minutesUntilLit_12 : decode cL_minutesUntilLit 12 = .ok (.astore_n 3, 1) := by decide +kernel
theorem dL_minutesUntilLit_13 : decode cL_minutesUntilLit 13 = .ok (.iconst 1, 1) := by decide +kernel
theorem dL_minutesUntilLit_14 : decode cL_minutesUntilLit 14 = .ok (.ireturn, 1) := by decide +kernel
theorem dL_minutesUntilLit_15 : decode cL_minutesUntilLit 15 = .ok (.astore_n 3, 1) := by decide +kernel
theorem dL_minutesUntilLit_16 : decode cL_minutesUntilLit 16 = .ok (.iconst 2, 1) := by decide +kernel
theorem dL_minutesUntilLit_17 : decode cL_minutesUntilLit 17 = .ok (.ireturn, 1) := by decide +kernel
theorem dL_minutesUntilLit_18 : decode cL_minutesUntilLit 18 = .ok (.iconst 0, 1) := by decide +kernel
theorem dL_minutesUntilLit_19 : decode cL_minutesUntilLit 19 = .ok (.ireturn, 1) := by decide +kernel
set_option maxRecDepth 20000 in
theorem ggL_nightsUntilFullMoon_X9_nightsUntilFullMoon : GoodIn wsL_nightsUntilFullMoon wsX9_nightsUntilFullMoon := goodIn_ca (goodIn_r _ [6, 7, 8, 9, 10, 11, 5, 12, 13, 14, 15, 16, 17, 18, 19, 20, 21, 22, 23, 24, 25, 26, 27, 28, 29, 30, 31, 32, 33, 34, 35, 36, 37] (by decide +kernel) (by decide +kernel)) (goodIn_sub (fun _ h => List.mem_cons_of_mem _ (List.mem_append_right _ h)) (by decide +kernel))
set_option maxRecDepth 20000 in
theorem gL_nightsUntilFullMoon_X9_nightsUntilFullMoon : GoodIn wsL_nightsUntilFullMoon (wsV RL 58 RX9 yX9_nightsUntilFullMoon wsX9_nightsUntilFullMoon) := goodIn_app (goodIn_of _ (by decide +kernel)) ggL_nightsUntilFullMoon_X9_nightsUntilFullMoon
theorem dL_nightsUntilFullMoon_0 : decode cL_nightsUntilFullMoon 0 = .ok (.aload_n 1, 1) := by decide +kernel
theorem dL_nightsUntilFullMoon_1 : decode cL_nightsUntilFullMoon 1 = .ok (.iconst 0, 1) := by decide +kernel
theorem dL_nightsUntilFullMoon_2 : decode cL_nightsUntilFullMoon 2 = .ok (.aload_n 0, 1) := by decide +kernel
theorem dL_nightsUntilFullMoon_3 : decode cL_nightsUntilFullMoon 3 = .ok (.invokevirtual 58, 3) := by decide +kernel
theorem dL_nightsUntilFullMoon_6 : decode cL_nightsUntilFullMoon 6 = .ok (.i2l, 1) := by decide +kernel
theorem dL_nightsUntilFullMoon_7 : decode cL_nightsUntilFullMoon 7 = .ok (.lastore, 1) := by decide +kernel
theorem dL_nightsUntilFullMoon_8 : decode cL_nightsUntilFullMoon 8 = .ok (.goto 6, 3) := by decide +kernel
theorem dL_nightsUntilFullMoon_11 : decode cL_nightsUntilFullMoon 11 = .ok (.astore_n 2, 1) := by decide +kernel
theorem dL_nightsUntilFullMoon_12 : decode cL_nightsUntilFullMoon 12 = .ok (.iconst 1, 1) := by decide +kernel
theorem dL_nightsUntilFullMoon_13 : decode cL_nightsUntilFullMoon 13 = .ok (.ireturn, 1) := by decide +kernel
theorem dL_nightsUntilFullMoon_14 : decode cL_nightsUntilFullMoon 14 = .ok (.iconst 0, 1) := by decide +kernel
theorem dL_nightsUntilFullMoon_15 : decode cL_nightsUntilFullMoon 15 = .ok (.ireturn, 1) := by decide +kernel
set_option maxRecDepth 20000 in
theorem ggL_pace_X9_pace : GoodIn wsL_pace wsX9_pace := goodIn_ca (goodIn_r _ [6, 7, 8, 9, 10, 11, 5, 12, 13, 14, 15, 16, 17, 18, 19, 20, 21, 22, 23, 24, 25, 26, 27, 28, 29, 30, 31, 32, 33, 34, 35, 36, 37] (by decide +kernel) (by decide +kernel)) (goodIn_sub (fun _ h => List.mem_cons_of_mem _ (List.mem_append_right _ h)) (by decide +kernel))
set_option maxRecDepth 20000 in
theorem gL_pace_X9_pace : GoodIn wsL_pace (wsV RL 61 RX9 yX9_pace wsX9_pace) := goodIn_app (goodIn_of _ (by decide +kernel)) ggL_pace_X9_pace
theorem dL_pace_0 : decode cL_pace 0 = .ok (.aload_n 1, 1) := by decide +kernel
theorem dL_pace_1 : decode cL_pace 1 = .ok (.iconst 0, 1) := by decide +kernel
theorem dL_pace_2 : decode cL_pace 2 = .ok (.aload_n 0, 1) := by decide +kernel
theorem dL_pace_3 : decode cL_pace 3 = .ok (.invokevirtual 61, 3) := by decide +kernel
theorem dL_pace_6 : decode cL_pace 6 = .ok (.i2l, 1) := by decide +kernel
theorem dL_pace_7 : decode cL_pace 7 = .ok (.lastore, 1) := by decide +kernel
theorem dL_pace_8 : decode cL_pace 8 = .ok (.goto 6, 3) := by decide +kernel
theorem dL_pace_11 : decode cL_pace 11 = .ok (.astore_n 2, 1) := by decide +kernel
theorem dL_pace_12 : decode cL_pace 12 = .ok (.iconst 1, 1) := by decide +kernel
theorem dL_pace_13 : decode cL_pace 13 = .ok (.ireturn, 1) := by decide +kernel
theorem dL_pace_14 : decode cL_pace 14 = .ok (.iconst 0, 1) := by decide +kernel
theorem dL_pace_15 : decode cL_pace 15 = .ok (.ireturn, 1) := by decide +kernel
set_option maxRecDepth 20000 in
theorem ggL_stepsPerMinute_X9_stepsPerMinute : GoodIn wsL_stepsPerMinute wsX9_stepsPerMinute := goodIn_ca (goodIn_ca (goodIn_r _ [6, 7, 8, 9, 10, 5, 11, 12, 13, 14, 15, 16, 17, 18, 19, 20, 21, 22, 23, 24, 25, 26, 27, 28, 29, 30, 31, 32, 33, 34, 35, 36, 37, 38, 39, 40, 41, 42, 43, 44, 45, 46, 47, 48, 49, 50, 51, 52, 53, 54, 55, 56, 57, 58, 59, 60, 61, 62, 63, 64, 65, 66, 67, 68, 69, 70, 71, 72, 73, 74, 75, 76, 77, 78] (by decide +kernel) (by decide +kernel)) (goodIn_sub (fun _ h => List.mem_cons_of_mem _ (List.mem_append_right _ h)) (by decide +kernel))) (goodIn_sub (fun _ h => List.mem_cons_of_mem _ (List.mem_append_left _ (List.mem_append_right _ h))) (by decide +kernel))
set_option maxRecDepth 20000 in
theorem gL_stepsPerMinute_X9_stepsPerMinute : GoodIn wsL_stepsPerMinute (wsV RL 64 RX9 yX9_stepsPerMinute wsX9_stepsPerMinute) := goodIn_app (goodIn_of _ (by decide +kernel)) ggL_stepsPerMinute_X9_stepsPerMinute
theorem dL_stepsPerMinute_0 : decode cL_stepsPerMinute 0 = .ok (.aload_n 1, 1) := by decide +kernel
theorem dL_stepsPerMinute_1 : decode cL_stepsPerMinute 1 = .ok (.iconst 0, 1) := by decide +kernel
theorem dL_stepsPerMinute_2 : decode cL_stepsPerMinute 2 = .ok (.aload_n 0, 1) := by decide +kernel
theorem dL_stepsPerMinute_3 : decode cL_stepsPerMinute 3 = .ok (.invokevirtual 64, 3) := by decide +kernel
theorem dL_stepsPerMinute_6 : decode cL_stepsPerMinute 6 = .ok (.i2l, 1) := by decide +kernel
theorem dL_stepsPerMinute_7 : decode cL_stepsPerMinute 7 = .ok (.lastore, 1) := by decide +kernel
theorem dL_stepsPerMinute_8 : decode cL_stepsPerMinute 8 = .ok (.goto 6, 3) := by decide +kernel
theorem dL_stepsPerMinute_11 : decode cL_stepsPerMinute 11 = .ok (.astore_n 2, 1) := by decide +kernel
theorem dL_stepsPerMinute_12 : decode cL_stepsPerMinute 12 = .ok (.iconst 1, 1) := by decide +kernel
theorem dL_stepsPerMinute_13 : decode cL_stepsPerMinute 13 = .ok (.ireturn, 1) := by decide +kernel
theorem dL_stepsPerMinute_14 : decode cL_stepsPerMinute 14 = .ok (.iconst 0, 1) := by decide +kernel
theorem dL_stepsPerMinute_15 : decode cL_stepsPerMinute 15 = .ok (.ireturn, 1) := by decide +kernel
set_option maxRecDepth 20000 in
theorem ggL_walkerTile_X9_walkerTile : GoodIn wsL_walkerTile wsX9_walkerTile := goodIn_ca (goodIn_r _ [6, 7, 8, 9, 10, 11, 12, 5, 13, 14, 15, 16, 17, 18, 19, 20, 21, 22, 23, 24, 25, 26, 27, 28, 29, 30, 31, 32, 33, 34, 35, 36, 37, 38, 39, 40, 41, 42, 43, 44, 45, 46, 47] (by decide +kernel) (by decide +kernel)) (goodIn_sub (fun _ h => List.mem_cons_of_mem _ (List.mem_append_right _ h)) (by decide +kernel))
set_option maxRecDepth 20000 in
theorem gL_walkerTile_X9_walkerTile : GoodIn wsL_walkerTile (wsV RL 67 RX9 yX9_walkerTile wsX9_walkerTile) := goodIn_app (goodIn_of _ (by decide +kernel)) ggL_walkerTile_X9_walkerTile
theorem dL_walkerTile_0 : decode cL_walkerTile 0 = .ok (.aload_n 1, 1) := by decide +kernel
theorem dL_walkerTile_1 : decode cL_walkerTile 1 = .ok (.iconst 0, 1) := by decide +kernel
theorem dL_walkerTile_2 : decode cL_walkerTile 2 = .ok (.aload_n 0, 1) := by decide +kernel
theorem dL_walkerTile_3 : decode cL_walkerTile 3 = .ok (.invokevirtual 67, 3) := by decide +kernel
theorem dL_walkerTile_6 : decode cL_walkerTile 6 = .ok (.i2l, 1) := by decide +kernel
theorem dL_walkerTile_7 : decode cL_walkerTile 7 = .ok (.lastore, 1) := by decide +kernel
theorem dL_walkerTile_8 : decode cL_walkerTile 8 = .ok (.goto 6, 3) := by decide +kernel
theorem dL_walkerTile_11 : decode cL_walkerTile 11 = .ok (.astore_n 2, 1) := by decide +kernel
theorem dL_walkerTile_12 : decode cL_walkerTile 12 = .ok (.iconst 1, 1) := by decide +kernel
theorem dL_walkerTile_13 : decode cL_walkerTile 13 = .ok (.ireturn, 1) := by decide +kernel
theorem dL_walkerTile_14 : decode cL_walkerTile 14 = .ok (.iconst 0, 1) := by decide +kernel
theorem dL_walkerTile_15 : decode cL_walkerTile 15 = .ok (.ireturn, 1) := by decide +kernel
set_option maxRecDepth 20000 in
theorem ggL_facesRight_X9_facesRight : GoodIn wsL_facesRight wsX9_facesRight := goodIn_ca (goodIn_r _ [6, 7, 8, 9, 10, 11, 12, 5, 13, 14, 15, 16, 17, 18, 19, 20, 21, 22, 23, 24, 25, 26, 27, 28, 29, 30, 31, 32, 33, 34, 35, 36, 37, 38, 39, 40, 41, 42, 43, 44, 45, 46, 47] (by decide +kernel) (by decide +kernel)) (goodIn_sub (fun _ h => List.mem_cons_of_mem _ (List.mem_append_right _ h)) (by decide +kernel))
set_option maxRecDepth 20000 in
theorem gL_facesRight_X9_facesRight : GoodIn wsL_facesRight (wsV RL 70 RX9 yX9_facesRight wsX9_facesRight) := goodIn_app (goodIn_of _ (by decide +kernel)) ggL_facesRight_X9_facesRight
theorem dL_facesRight_0 : decode cL_facesRight 0 = .ok (.aload_n 1, 1) := by decide +kernel
theorem dL_facesRight_1 : decode cL_facesRight 1 = .ok (.iconst 0, 1) := by decide +kernel
theorem dL_facesRight_2 : decode cL_facesRight 2 = .ok (.aload_n 0, 1) := by decide +kernel
theorem dL_facesRight_3 : decode cL_facesRight 3 = .ok (.invokevirtual 70, 3) := by decide +kernel
theorem dL_facesRight_6 : decode cL_facesRight 6 = .ok (.ifCond .eq 7, 3) := by decide +kernel
theorem dL_facesRight_9 : decode cL_facesRight 9 = .ok (.lconst 1, 1) := by decide +kernel
theorem dL_facesRight_10 : decode cL_facesRight 10 = .ok (.goto 4, 3) := by decide +kernel
theorem dL_facesRight_13 : decode cL_facesRight 13 = .ok (.lconst 0, 1) := by decide +kernel
theorem dL_facesRight_14 : decode cL_facesRight 14 = .ok (.lastore, 1) := by decide +kernel
theorem dL_facesRight_15 : decode cL_facesRight 15 = .ok (.goto 6, 3) := by decide +kernel
theorem dL_facesRight_18 : decode cL_facesRight 18 = .ok (.astore_n 2, 1) := by decide +kernel
theorem dL_facesRight_19 : decode cL_facesRight 19 = .ok (.iconst 1, 1) := by decide +kernel
theorem dL_facesRight_20 : decode cL_facesRight 20 = .ok (.ireturn, 1) := by decide +kernel
theorem dL_facesRight_21 : decode cL_facesRight 21 = .ok (.iconst 0, 1) := by decide +kernel
theorem dL_facesRight_22 : decode cL_facesRight 22 = .ok (.ireturn, 1) := by decide +kernel
set_option maxRecDepth 20000 in
theorem ggL_restRemaining_X9_restRemaining : GoodIn wsL_restRemaining wsX9_restRemaining := goodIn_ca (goodIn_r _ [6, 7, 8, 9, 10, 11, 12, 5, 13, 14, 15, 16, 17, 18, 19, 20, 21, 22, 23, 24, 25, 26, 27, 28, 29, 30, 31, 32, 33, 34, 35, 36, 37, 38, 39, 40, 41, 42, 43, 44, 45, 46, 47] (by decide +kernel) (by decide +kernel)) (goodIn_sub (fun _ h => List.mem_cons_of_mem _ (List.mem_append_right _ h)) (by decide +kernel))
set_option maxRecDepth 20000 in
theorem gL_restRemaining_X9_restRemaining : GoodIn wsL_restRemaining (wsV RL 73 RX9 yX9_restRemaining wsX9_restRemaining) := goodIn_app (goodIn_of _ (by decide +kernel)) ggL_restRemaining_X9_restRemaining
theorem dL_restRemaining_0 : decode cL_restRemaining 0 = .ok (.aload_n 1, 1) := by decide +kernel
theorem dL_restRemaining_1 : decode cL_restRemaining 1 = .ok (.iconst 0, 1) := by decide +kernel
theorem dL_restRemaining_2 : decode cL_restRemaining 2 = .ok (.aload_n 0, 1) := by decide +kernel
theorem dL_restRemaining_3 : decode cL_restRemaining 3 = .ok (.invokevirtual 73, 3) := by decide +kernel
theorem dL_restRemaining_6 : decode cL_restRemaining 6 = .ok (.i2l, 1) := by decide +kernel
theorem dL_restRemaining_7 : decode cL_restRemaining 7 = .ok (.lastore, 1) := by decide +kernel
theorem dL_restRemaining_8 : decode cL_restRemaining 8 = .ok (.goto 6, 3) := by decide +kernel
theorem dL_restRemaining_11 : decode cL_restRemaining 11 = .ok (.astore_n 2, 1) := by decide +kernel
theorem dL_restRemaining_12 : decode cL_restRemaining 12 = .ok (.iconst 1, 1) := by decide +kernel
theorem dL_restRemaining_13 : decode cL_restRemaining 13 = .ok (.ireturn, 1) := by decide +kernel
theorem dL_restRemaining_14 : decode cL_restRemaining 14 = .ok (.iconst 0, 1) := by decide +kernel
theorem dL_restRemaining_15 : decode cL_restRemaining 15 = .ok (.ireturn, 1) := by decide +kernel
set_option maxRecDepth 20000 in
theorem ggL_stepsSincePause_X9_stepsSincePause : GoodIn wsL_stepsSincePause wsX9_stepsSincePause := goodIn_ca (goodIn_r _ [6, 7, 8, 9, 10, 11, 12, 5, 13, 14, 15, 16, 17, 18, 19, 20, 21, 22, 23, 24, 25, 26, 27, 28, 29, 30, 31, 32, 33, 34, 35, 36, 37, 38, 39, 40, 41, 42, 43, 44, 45, 46, 47] (by decide +kernel) (by decide +kernel)) (goodIn_sub (fun _ h => List.mem_cons_of_mem _ (List.mem_append_right _ h)) (by decide +kernel))
set_option maxRecDepth 20000 in
theorem gL_stepsSincePause_X9_stepsSincePause : GoodIn wsL_stepsSincePause (wsV RL 76 RX9 yX9_stepsSincePause wsX9_stepsSincePause) := goodIn_app (goodIn_of _ (by decide +kernel)) ggL_stepsSincePause_X9_stepsSincePause
theorem dL_stepsSincePause_0 : decode cL_stepsSincePause 0 = .ok (.aload_n 1, 1) := by decide +kernel
theorem dL_stepsSincePause_1 : decode cL_stepsSincePause 1 = .ok (.iconst 0, 1) := by decide +kernel
theorem dL_stepsSincePause_2 : decode cL_stepsSincePause 2 = .ok (.aload_n 0, 1) := by decide +kernel
theorem dL_stepsSincePause_3 : decode cL_stepsSincePause 3 = .ok (.invokevirtual 76, 3) := by decide +kernel
theorem dL_stepsSincePause_6 : decode cL_stepsSincePause 6 = .ok (.i2l, 1) := by decide +kernel
theorem dL_stepsSincePause_7 : decode cL_stepsSincePause 7 = .ok (.lastore, 1) := by decide +kernel
theorem dL_stepsSincePause_8 : decode cL_stepsSincePause 8 = .ok (.goto 6, 3) := by decide +kernel
theorem dL_stepsSincePause_11 : decode cL_stepsSincePause 11 = .ok (.astore_n 2, 1) := by decide +kernel
theorem dL_stepsSincePause_12 : decode cL_stepsSincePause 12 = .ok (.iconst 1, 1) := by decide +kernel
theorem dL_stepsSincePause_13 : decode cL_stepsSincePause 13 = .ok (.ireturn, 1) := by decide +kernel
theorem dL_stepsSincePause_14 : decode cL_stepsSincePause 14 = .ok (.iconst 0, 1) := by decide +kernel
theorem dL_stepsSincePause_15 : decode cL_stepsSincePause 15 = .ok (.ireturn, 1) := by decide +kernel
set_option maxRecDepth 20000 in
theorem ggL_totalSteps_X9_totalSteps : GoodIn wsL_totalSteps wsX9_totalSteps := goodIn_ca (goodIn_r _ [6, 7, 8, 9, 10, 11, 12, 5, 13, 14, 15, 16, 17, 18, 19, 20, 21, 22, 23, 24, 25, 26, 27, 28, 29, 30, 31, 32, 33, 34, 35, 36, 37, 38, 39, 40, 41, 42, 43, 44, 45, 46, 47] (by decide +kernel) (by decide +kernel)) (goodIn_sub (fun _ h => List.mem_cons_of_mem _ (List.mem_append_right _ h)) (by decide +kernel))
set_option maxRecDepth 20000 in
theorem gL_totalSteps_X9_totalSteps : GoodIn wsL_totalSteps (wsV RL 79 RX9 yX9_totalSteps wsX9_totalSteps) := goodIn_app (goodIn_of _ (by decide +kernel)) ggL_totalSteps_X9_totalSteps
theorem dL_totalSteps_0 : decode cL_totalSteps 0 = .ok (.aload_n 1, 1) := by decide +kernel
theorem dL_totalSteps_1 : decode cL_totalSteps 1 = .ok (.iconst 0, 1) := by decide +kernel
theorem dL_totalSteps_2 : decode cL_totalSteps 2 = .ok (.aload_n 0, 1) := by decide +kernel
theorem dL_totalSteps_3 : decode cL_totalSteps 3 = .ok (.invokevirtual 79, 3) := by decide +kernel
theorem dL_totalSteps_6 : decode cL_totalSteps 6 = .ok (.i2l, 1) := by decide +kernel
theorem dL_totalSteps_7 : decode cL_totalSteps 7 = .ok (.lastore, 1) := by decide +kernel
theorem dL_totalSteps_8 : decode cL_totalSteps 8 = .ok (.goto 6, 3) := by decide +kernel
theorem dL_totalSteps_11 : decode cL_totalSteps 11 = .ok (.astore_n 2, 1) := by decide +kernel
theorem dL_totalSteps_12 : decode cL_totalSteps 12 = .ok (.iconst 1, 1) := by decide +kernel
theorem dL_totalSteps_13 : decode cL_totalSteps 13 = .ok (.ireturn, 1) := by decide +kernel
theorem dL_totalSteps_14 : decode cL_totalSteps 14 = .ok (.iconst 0, 1) := by decide +kernel
theorem dL_totalSteps_15 : decode cL_totalSteps 15 = .ok (.ireturn, 1) := by decide +kernel
set_option maxRecDepth 20000 in
theorem ggL_stepsTonight_X9_stepsTonight : GoodIn wsL_stepsTonight wsX9_stepsTonight := goodIn_ca (goodIn_r _ [6, 7, 8, 9, 10, 11, 12, 5, 13, 14, 15, 16, 17, 18, 19, 20, 21, 22, 23, 24, 25, 26, 27, 28, 29, 30, 31, 32, 33, 34, 35, 36, 37, 38, 39, 40, 41, 42, 43, 44, 45, 46, 47] (by decide +kernel) (by decide +kernel)) (goodIn_sub (fun _ h => List.mem_cons_of_mem _ (List.mem_append_right _ h)) (by decide +kernel))
set_option maxRecDepth 20000 in
theorem gL_stepsTonight_X9_stepsTonight : GoodIn wsL_stepsTonight (wsV RL 82 RX9 yX9_stepsTonight wsX9_stepsTonight) := goodIn_app (goodIn_of _ (by decide +kernel)) ggL_stepsTonight_X9_stepsTonight
theorem dL_stepsTonight_0 : decode cL_stepsTonight 0 = .ok (.aload_n 1, 1) := by decide +kernel
theorem dL_stepsTonight_1 : decode cL_stepsTonight 1 = .ok (.iconst 0, 1) := by decide +kernel
theorem dL_stepsTonight_2 : decode cL_stepsTonight 2 = .ok (.aload_n 0, 1) := by decide +kernel
theorem dL_stepsTonight_3 : decode cL_stepsTonight 3 = .ok (.invokevirtual 82, 3) := by decide +kernel
theorem dL_stepsTonight_6 : decode cL_stepsTonight 6 = .ok (.i2l, 1) := by decide +kernel
theorem dL_stepsTonight_7 : decode cL_stepsTonight 7 = .ok (.lastore, 1) := by decide +kernel
theorem dL_stepsTonight_8 : decode cL_stepsTonight 8 = .ok (.goto 6, 3) := by decide +kernel
theorem dL_stepsTonight_11 : decode cL_stepsTonight 11 = .ok (.astore_n 2, 1) := by decide +kernel
theorem dL_stepsTonight_12 : decode cL_stepsTonight 12 = .ok (.iconst 1, 1) := by decide +kernel
theorem dL_stepsTonight_13 : decode cL_stepsTonight 13 = .ok (.ireturn, 1) := by decide +kernel
theorem dL_stepsTonight_14 : decode cL_stepsTonight 14 = .ok (.iconst 0, 1) := by decide +kernel
theorem dL_stepsTonight_15 : decode cL_stepsTonight 15 = .ok (.ireturn, 1) := by decide +kernel
set_option maxRecDepth 20000 in
theorem ggL_turnCount_X9_turnCount : GoodIn wsL_turnCount wsX9_turnCount := goodIn_ca (goodIn_r _ [6, 7, 8, 9, 10, 11, 12, 5, 13, 14, 15, 16, 17, 18, 19, 20, 21, 22, 23, 24, 25, 26, 27, 28, 29, 30, 31, 32, 33, 34, 35, 36, 37, 38, 39, 40, 41, 42, 43, 44, 45, 46, 47] (by decide +kernel) (by decide +kernel)) (goodIn_sub (fun _ h => List.mem_cons_of_mem _ (List.mem_append_right _ h)) (by decide +kernel))
set_option maxRecDepth 20000 in
theorem gL_turnCount_X9_turnCount : GoodIn wsL_turnCount (wsV RL 85 RX9 yX9_turnCount wsX9_turnCount) := goodIn_app (goodIn_of _ (by decide +kernel)) ggL_turnCount_X9_turnCount
theorem dL_turnCount_0 : decode cL_turnCount 0 = .ok (.aload_n 1, 1) := by decide +kernel
theorem dL_turnCount_1 : decode cL_turnCount 1 = .ok (.iconst 0, 1) := by decide +kernel
theorem dL_turnCount_2 : decode cL_turnCount 2 = .ok (.aload_n 0, 1) := by decide +kernel
theorem dL_turnCount_3 : decode cL_turnCount 3 = .ok (.invokevirtual 85, 3) := by decide +kernel
theorem dL_turnCount_6 : decode cL_turnCount 6 = .ok (.i2l, 1) := by decide +kernel
theorem dL_turnCount_7 : decode cL_turnCount 7 = .ok (.lastore, 1) := by decide +kernel
theorem dL_turnCount_8 : decode cL_turnCount 8 = .ok (.goto 6, 3) := by decide +kernel
theorem dL_turnCount_11 : decode cL_turnCount 11 = .ok (.astore_n 2, 1) := by decide +kernel
theorem dL_turnCount_12 : decode cL_turnCount 12 = .ok (.iconst 1, 1) := by decide +kernel
theorem dL_turnCount_13 : decode cL_turnCount 13 = .ok (.ireturn, 1) := by decide +kernel
theorem dL_turnCount_14 : decode cL_turnCount 14 = .ok (.iconst 0, 1) := by decide +kernel
theorem dL_turnCount_15 : decode cL_turnCount 15 = .ok (.ireturn, 1) := by decide +kernel
set_option maxRecDepth 20000 in
theorem ggL_fallCount_X9_fallCount : GoodIn wsL_fallCount wsX9_fallCount := goodIn_ca (goodIn_r _ [6, 7, 8, 9, 10, 11, 12, 5, 13, 14, 15, 16, 17, 18, 19, 20, 21, 22, 23, 24, 25, 26, 27, 28, 29, 30, 31, 32, 33, 34, 35, 36, 37, 38, 39, 40, 41, 42, 43, 44, 45, 46, 47] (by decide +kernel) (by decide +kernel)) (goodIn_sub (fun _ h => List.mem_cons_of_mem _ (List.mem_append_right _ h)) (by decide +kernel))
set_option maxRecDepth 20000 in
theorem gL_fallCount_X9_fallCount : GoodIn wsL_fallCount (wsV RL 88 RX9 yX9_fallCount wsX9_fallCount) := goodIn_app (goodIn_of _ (by decide +kernel)) ggL_fallCount_X9_fallCount
theorem dL_fallCount_0 : decode cL_fallCount 0 = .ok (.aload_n 1, 1) := by decide +kernel
theorem dL_fallCount_1 : decode cL_fallCount 1 = .ok (.iconst 0, 1) := by decide +kernel
theorem dL_fallCount_2 : decode cL_fallCount 2 = .ok (.aload_n 0, 1) := by decide +kernel
theorem dL_fallCount_3 : decode cL_fallCount 3 = .ok (.invokevirtual 88, 3) := by decide +kernel
theorem dL_fallCount_6 : decode cL_fallCount 6 = .ok (.i2l, 1) := by decide +kernel
theorem dL_fallCount_7 : decode cL_fallCount 7 = .ok (.lastore, 1) := by decide +kernel
theorem dL_fallCount_8 : decode cL_fallCount 8 = .ok (.goto 6, 3) := by decide +kernel
theorem dL_fallCount_11 : decode cL_fallCount 11 = .ok (.astore_n 2, 1) := by decide +kernel
theorem dL_fallCount_12 : decode cL_fallCount 12 = .ok (.iconst 1, 1) := by decide +kernel
theorem dL_fallCount_13 : decode cL_fallCount 13 = .ok (.ireturn, 1) := by decide +kernel
theorem dL_fallCount_14 : decode cL_fallCount 14 = .ok (.iconst 0, 1) := by decide +kernel
theorem dL_fallCount_15 : decode cL_fallCount 15 = .ok (.ireturn, 1) := by decide +kernel
set_option maxRecDepth 20000 in
theorem ggL_blockReason_X9_blockReason : GoodIn wsL_blockReason wsX9_blockReason := goodIn_ca (goodIn_ca (goodIn_r _ [6, 7, 8, 9, 10, 5, 11, 12, 13, 14, 15, 16, 17, 18, 19, 20, 21, 22, 23, 24, 25, 26, 27, 28, 29, 30, 31, 32, 33, 34, 35, 36, 37, 38, 39, 40, 41, 42, 43, 44, 45, 46, 47, 48, 49, 50, 51, 52, 53, 54, 55, 56, 57, 58, 59, 60, 61, 62, 63, 64, 65, 66, 67, 68, 69, 70, 71, 72, 73, 74, 75, 76, 77, 78, 79, 80, 81, 82, 83, 84, 85, 86, 87, 88, 89, 90, 91, 92, 93, 94, 95, 96, 97, 98, 99, 100] (by decide +kernel) (by decide +kernel)) (goodIn_sub (fun _ h => List.mem_cons_of_mem _ (List.mem_append_right _ h)) (by decide +kernel))) (goodIn_sub (fun _ h => List.mem_cons_of_mem _ (List.mem_append_left _ (List.mem_append_right _ h))) (by decide +kernel))
set_option maxRecDepth 20000 in
theorem gL_blockReason_X9_blockReason : GoodIn wsL_blockReason (wsV RL 91 RX9 yX9_blockReason wsX9_blockReason) := goodIn_app (goodIn_of _ (by decide +kernel)) ggL_blockReason_X9_blockReason
theorem dL_blockReason_0 : decode cL_blockReason 0 = .ok (.aload_n 1, 1) := by decide +kernel
theorem dL_blockReason_1 : decode cL_blockReason 1 = .ok (.iconst 0, 1) := by decide +kernel
theorem dL_blockReason_2 : decode cL_blockReason 2 = .ok (.aload_n 0, 1) := by decide +kernel
theorem dL_blockReason_3 : decode cL_blockReason 3 = .ok (.invokevirtual 91, 3) := by decide +kernel
theorem dL_blockReason_6 : decode cL_blockReason 6 = .ok (.i2l, 1) := by decide +kernel
theorem dL_blockReason_7 : decode cL_blockReason 7 = .ok (.lastore, 1) := by decide +kernel
theorem dL_blockReason_8 : decode cL_blockReason 8 = .ok (.goto 6, 3) := by decide +kernel
theorem dL_blockReason_11 : decode cL_blockReason 11 = .ok (.astore_n 2, 1) := by decide +kernel
theorem dL_blockReason_12 : decode cL_blockReason 12 = .ok (.iconst 1, 1) := by decide +kernel
theorem dL_blockReason_13 : decode cL_blockReason 13 = .ok (.ireturn, 1) := by decide +kernel
theorem dL_blockReason_14 : decode cL_blockReason 14 = .ok (.iconst 0, 1) := by decide +kernel
theorem dL_blockReason_15 : decode cL_blockReason 15 = .ok (.ireturn, 1) := by decide +kernel
set_option maxRecDepth 20000 in
theorem ggL_wear_X9_wear : GoodIn wsL_wear wsX9_wear := goodIn_ca (goodIn_ca (goodIn_ca (goodIn_r _ [6, 7, 8, 9, 10, 11, 5, 12, 13, 14, 15, 16, 17, 18, 19, 20, 21, 22, 23, 24, 25, 26, 27, 28, 29, 30, 31, 32, 33, 34, 35, 36, 37, 38, 39, 40, 41, 42, 43, 44, 45, 46, 47, 48, 49, 50, 51, 52, 53, 54, 55, 56, 57, 58, 59, 60, 61, 62, 63, 64, 65, 66, 67] (by decide +kernel) (by decide +kernel)) (goodIn_sub (fun _ h => List.mem_cons_of_mem _ (List.mem_append_left _ (List.mem_append_right _ h))) (by decide +kernel))) (goodIn_sub (fun _ h => List.mem_cons_of_mem _ (List.mem_append_right _ h)) (by decide +kernel))) (goodIn_sub (fun _ h => List.mem_cons_of_mem _ (List.mem_append_left _ (List.mem_append_left _ (List.mem_append_right _ h)))) (by decide +kernel))
set_option maxRecDepth 20000 in
theorem gL_wear_X9_wear : GoodIn wsL_wear (wsV RL 94 RX9 yX9_wear wsX9_wear) := goodIn_app (goodIn_of _ (by decide +kernel)) ggL_wear_X9_wear
theorem dL_wear_0 : decode cL_wear 0 = .ok (.aload_n 2, 1) := by decide +kernel
theorem dL_wear_1 : decode cL_wear 1 = .ok (.iconst 0, 1) := by decide +kernel
theorem dL_wear_2 : decode cL_wear 2 = .ok (.aload_n 0, 1) := by decide +kernel
theorem dL_wear_3 : decode cL_wear 3 = .ok (.iload_n 1, 1) := by decide +kernel
theorem dL_wear_4 : decode cL_wear 4 = .ok (.invokevirtual 94, 3) := by decide +kernel
theorem dL_wear_7 : decode cL_wear 7 = .ok (.i2l, 1) := by decide +kernel
theorem dL_wear_8 : decode cL_wear 8 = .ok (.lastore, 1) := by decide +kernel
theorem dL_wear_9 : decode cL_wear 9 = .ok (.goto 9, 3) := by decide +kernel
theorem dL_wear_12 : decode cL_wear 12 = .ok (.astore_n 3, 1) := by decide +kernel
theorem dL_wear_13 : decode cL_wear 13 = .ok (.iconst 1, 1) := by decide +kernel
theorem dL_wear_14 : decode cL_wear 14 = .ok (.ireturn, 1) := by decide +kernel
theorem dL_wear_15 : decode cL_wear 15 = .ok (.astore_n 3, 1) := by decide +kernel
theorem dL_wear_16 : decode cL_wear 16 = .ok (.iconst 2, 1) := by decide +kernel
theorem dL_wear_17 : decode cL_wear 17 = .ok (.ireturn, 1) := by decide +kernel
theorem dL_wear_18 : decode cL_wear 18 = .ok (.iconst 0, 1) := by decide +kernel
theorem dL_wear_19 : decode cL_wear 19 = .ok (.ireturn, 1) := by decide +kernel
set_option maxRecDepth 20000 in
theorem ggL_catTile_X9_catTile : GoodIn wsL_catTile wsX9_catTile := goodIn_ca (goodIn_r _ [6, 7, 8, 9, 10, 11, 5, 12, 13, 14, 15, 16, 17, 18, 19, 20, 21, 22, 23, 24, 25, 26, 27, 28, 29, 30, 31, 32, 33, 34, 35, 36, 37] (by decide +kernel) (by decide +kernel)) (goodIn_sub (fun _ h => List.mem_cons_of_mem _ (List.mem_append_right _ h)) (by decide +kernel))
set_option maxRecDepth 20000 in
theorem gL_catTile_X9_catTile : GoodIn wsL_catTile (wsV RL 97 RX9 yX9_catTile wsX9_catTile) := goodIn_app (goodIn_of _ (by decide +kernel)) ggL_catTile_X9_catTile
theorem dL_catTile_0 : decode cL_catTile 0 = .ok (.aload_n 1, 1) := by decide +kernel
theorem dL_catTile_1 : decode cL_catTile 1 = .ok (.iconst 0, 1) := by decide +kernel
theorem dL_catTile_2 : decode cL_catTile 2 = .ok (.aload_n 0, 1) := by decide +kernel
theorem dL_catTile_3 : decode cL_catTile 3 = .ok (.invokevirtual 97, 3) := by decide +kernel
theorem dL_catTile_6 : decode cL_catTile 6 = .ok (.i2l, 1) := by decide +kernel
theorem dL_catTile_7 : decode cL_catTile 7 = .ok (.lastore, 1) := by decide +kernel
theorem dL_catTile_8 : decode cL_catTile 8 = .ok (.goto 6, 3) := by decide +kernel
theorem dL_catTile_11 : decode cL_catTile 11 = .ok (.astore_n 2, 1) := by decide +kernel
theorem dL_catTile_12 : decode cL_catTile 12 = .ok (.iconst 1, 1) := by decide +kernel
theorem dL_catTile_13 : decode cL_catTile 13 = .ok (.ireturn, 1) := by decide +kernel
theorem dL_catTile_14 : decode cL_catTile 14 = .ok (.iconst 0, 1) := by decide +kernel
theorem dL_catTile_15 : decode cL_catTile 15 = .ok (.ireturn, 1) := by decide +kernel
set_option maxRecDepth 20000 in
theorem ggL_hasRug_X9_hasRug : GoodIn wsL_hasRug wsX9_hasRug := goodIn_ca (goodIn_ca (goodIn_ca (goodIn_r _ [6, 7, 8, 9, 10, 11, 5, 12, 13, 14, 15, 16, 17, 18, 19, 20, 21, 22, 23, 24, 25, 26, 27, 28, 29, 30, 31, 32, 33, 34, 35, 36, 37, 38, 39, 40, 41, 42, 43, 44, 45, 46, 47, 48, 49, 50, 51, 52, 53, 54, 55, 56, 57, 58, 59, 60, 61, 62, 63, 64, 65, 66, 67] (by decide +kernel) (by decide +kernel)) (goodIn_sub (fun _ h => List.mem_cons_of_mem _ (List.mem_append_left _ (List.mem_append_right _ h))) (by decide +kernel))) (goodIn_sub (fun _ h => List.mem_cons_of_mem _ (List.mem_append_right _ h)) (by decide +kernel))) (goodIn_sub (fun _ h => List.mem_cons_of_mem _ (List.mem_append_left _ (List.mem_append_left _ (List.mem_append_right _ h)))) (by decide +kernel))
set_option maxRecDepth 20000 in
theorem gL_hasRug_X9_hasRug : GoodIn wsL_hasRug (wsV RL 100 RX9 yX9_hasRug wsX9_hasRug) := goodIn_app (goodIn_of _ (by decide +kernel)) ggL_hasRug_X9_hasRug
theorem dL_hasRug_0 : decode cL_hasRug 0 = .ok (.aload_n 2, 1) := by decide +kernel
theorem dL_hasRug_1 : decode cL_hasRug 1 = .ok (.iconst 0, 1) := by decide +kernel
theorem dL_hasRug_2 : decode cL_hasRug 2 = .ok (.aload_n 0, 1) := by decide +kernel
theorem dL_hasRug_3 : decode cL_hasRug 3 = .ok (.iload_n 1, 1) := by decide +kernel
theorem dL_hasRug_4 : decode cL_hasRug 4 = .ok (.invokevirtual 100, 3) := by decide +kernel
theorem dL_hasRug_7 : decode cL_hasRug 7 = .ok (.ifCond .eq 7, 3) := by decide +kernel
theorem dL_hasRug_10 : decode cL_hasRug 10 = .ok (.lconst 1, 1) := by decide +kernel
theorem dL_hasRug_11 : decode cL_hasRug 11 = .ok (.goto 4, 3) := by decide +kernel
theorem dL_hasRug_14 : decode cL_hasRug 14 = .ok (.lconst 0, 1) := by decide +kernel
theorem dL_hasRug_15 : decode cL_hasRug 15 = .ok (.lastore, 1) := by decide +kernel
theorem dL_hasRug_16 : decode cL_hasRug 16 = .ok (.goto 9, 3) := by decide +kernel
theorem dL_hasRug_19 : decode cL_hasRug 19 = .ok (.astore_n 3, 1) := by decide +kernel
theorem dL_hasRug_20 : decode cL_hasRug 20 = .ok (.iconst 1, 1) := by decide +kernel
theorem dL_hasRug_21 : decode cL_hasRug 21 = .ok (.ireturn, 1) := by decide +kernel
theorem dL_hasRug_22 : decode cL_hasRug 22 = .ok (.astore_n 3, 1) := by decide +kernel
theorem dL_hasRug_23 : decode cL_hasRug 23 = .ok (.iconst 2, 1) := by decide +kernel
theorem dL_hasRug_24 : decode cL_hasRug 24 = .ok (.ireturn, 1) := by decide +kernel
theorem dL_hasRug_25 : decode cL_hasRug 25 = .ok (.iconst 0, 1) := by decide +kernel
theorem dL_hasRug_26 : decode cL_hasRug 26 = .ok (.ireturn, 1) := by decide +kernel
set_option maxRecDepth 20000 in
theorem ggL_slideCount_X9_slideCount : GoodIn wsL_slideCount wsX9_slideCount := goodIn_ca (goodIn_r _ [6, 7, 8, 9, 10, 11, 5, 12, 13, 14, 15, 16, 17, 18, 19, 20, 21, 22, 23, 24, 25, 26, 27, 28, 29, 30, 31, 32, 33, 34, 35, 36, 37] (by decide +kernel) (by decide +kernel)) (goodIn_sub (fun _ h => List.mem_cons_of_mem _ (List.mem_append_right _ h)) (by decide +kernel))
set_option maxRecDepth 20000 in
theorem gL_slideCount_X9_slideCount : GoodIn wsL_slideCount (wsV RL 103 RX9 yX9_slideCount wsX9_slideCount) := goodIn_app (goodIn_of _ (by decide +kernel)) ggL_slideCount_X9_slideCount
theorem dL_slideCount_0 : decode cL_slideCount 0 = .ok (.aload_n 1, 1) := by decide +kernel
theorem dL_slideCount_1 : decode cL_slideCount 1 = .ok (.iconst 0, 1) := by decide +kernel
theorem dL_slideCount_2 : decode cL_slideCount 2 = .ok (.aload_n 0, 1) := by decide +kernel
theorem dL_slideCount_3 : decode cL_slideCount 3 = .ok (.invokevirtual 103, 3) := by decide +kernel
theorem dL_slideCount_6 : decode cL_slideCount 6 = .ok (.i2l, 1) := by decide +kernel
theorem dL_slideCount_7 : decode cL_slideCount 7 = .ok (.lastore, 1) := by decide +kernel
theorem dL_slideCount_8 : decode cL_slideCount 8 = .ok (.goto 6, 3) := by decide +kernel
theorem dL_slideCount_11 : decode cL_slideCount 11 = .ok (.astore_n 2, 1) := by decide +kernel
theorem dL_slideCount_12 : decode cL_slideCount 12 = .ok (.iconst 1, 1) := by decide +kernel
theorem dL_slideCount_13 : decode cL_slideCount 13 = .ok (.ireturn, 1) := by decide +kernel
theorem dL_slideCount_14 : decode cL_slideCount 14 = .ok (.iconst 0, 1) := by decide +kernel
theorem dL_slideCount_15 : decode cL_slideCount 15 = .ok (.ireturn, 1) := by decide +kernel
set_option maxRecDepth 20000 in
theorem ggL_hasBowl_X9_hasBowl : GoodIn wsL_hasBowl wsX9_hasBowl := goodIn_ca (goodIn_ca (goodIn_ca (goodIn_r _ [6, 7, 8, 9, 10, 11, 5, 12, 13, 14, 15, 16, 17, 18, 19, 20, 21, 22, 23, 24, 25, 26, 27, 28, 29, 30, 31, 32, 33, 34, 35, 36, 37, 38, 39, 40, 41, 42, 43, 44, 45, 46, 47, 48, 49, 50, 51, 52, 53, 54, 55, 56, 57, 58, 59, 60, 61, 62, 63, 64, 65, 66, 67] (by decide +kernel) (by decide +kernel)) (goodIn_sub (fun _ h => List.mem_cons_of_mem _ (List.mem_append_left _ (List.mem_append_right _ h))) (by decide +kernel))) (goodIn_sub (fun _ h => List.mem_cons_of_mem _ (List.mem_append_right _ h)) (by decide +kernel))) (goodIn_sub (fun _ h => List.mem_cons_of_mem _ (List.mem_append_left _ (List.mem_append_left _ (List.mem_append_right _ h)))) (by decide +kernel))
set_option maxRecDepth 20000 in
theorem gL_hasBowl_X9_hasBowl : GoodIn wsL_hasBowl (wsV RL 106 RX9 yX9_hasBowl wsX9_hasBowl) := goodIn_app (goodIn_of _ (by decide +kernel)) ggL_hasBowl_X9_hasBowl
theorem dL_hasBowl_0 : decode cL_hasBowl 0 = .ok (.aload_n 2, 1) := by decide +kernel
theorem dL_hasBowl_1 : decode cL_hasBowl 1 = .ok (.iconst 0, 1) := by decide +kernel
theorem dL_hasBowl_2 : decode cL_hasBowl 2 = .ok (.aload_n 0, 1) := by decide +kernel
theorem dL_hasBowl_3 : decode cL_hasBowl 3 = .ok (.iload_n 1, 1) := by decide +kernel
theorem dL_hasBowl_4 : decode cL_hasBowl 4 = .ok (.invokevirtual 106, 3) := by decide +kernel
theorem dL_hasBowl_7 : decode cL_hasBowl 7 = .ok (.ifCond .eq 7, 3) := by decide +kernel
theorem dL_hasBowl_10 : decode cL_hasBowl 10 = .ok (.lconst 1, 1) := by decide +kernel
theorem dL_hasBowl_11 : decode cL_hasBowl 11 = .ok (.goto 4, 3) := by decide +kernel
theorem dL_hasBowl_14 : decode cL_hasBowl 14 = .ok (.lconst 0, 1) := by decide +kernel
theorem dL_hasBowl_15 : decode cL_hasBowl 15 = .ok (.lastore, 1) := by decide +kernel
theorem dL_hasBowl_16 : decode cL_hasBowl 16 = .ok (.goto 9, 3) := by decide +kernel
theorem dL_hasBowl_19 : decode cL_hasBowl 19 = .ok (.astore_n 3, 1) := by decide +kernel
theorem dL_hasBowl_20 : decode cL_hasBowl 20 = .ok (.iconst 1, 1) := by decide +kernel
theorem dL_hasBowl_21 : decode cL_hasBowl 21 = .ok (.ireturn, 1) := by decide +kernel
theorem dL_hasBowl_22 : decode cL_hasBowl 22 = .ok (.astore_n 3, 1) := by decide +kernel
theorem dL_hasBowl_23 : decode cL_hasBowl 23 = .ok (.iconst 2, 1) := by decide +kernel
theorem dL_hasBowl_24 : decode cL_hasBowl 24 = .ok (.ireturn, 1) := by decide +kernel
theorem dL_hasBowl_25 : decode cL_hasBowl 25 = .ok (.iconst 0, 1) := by decide +kernel
theorem dL_hasBowl_26 : decode cL_hasBowl 26 = .ok (.ireturn, 1) := by decide +kernel
set_option maxRecDepth 20000 in
theorem ggL_spillTime_X9_spillTime : GoodIn wsL_spillTime wsX9_spillTime := goodIn_ca (goodIn_ca (goodIn_ca (goodIn_r _ [6, 7, 8, 9, 10, 11, 5, 12, 13, 14, 15, 16, 17, 18, 19, 20, 21, 22, 23, 24, 25, 26, 27, 28, 29, 30, 31, 32, 33, 34, 35, 36, 37, 38, 39, 40, 41, 42, 43, 44, 45, 46, 47, 48, 49, 50, 51, 52, 53, 54, 55, 56, 57, 58, 59, 60, 61, 62, 63, 64, 65, 66, 67] (by decide +kernel) (by decide +kernel)) (goodIn_sub (fun _ h => List.mem_cons_of_mem _ (List.mem_append_left _ (List.mem_append_right _ h))) (by decide +kernel))) (goodIn_sub (fun _ h => List.mem_cons_of_mem _ (List.mem_append_right _ h)) (by decide +kernel))) (goodIn_sub (fun _ h => List.mem_cons_of_mem _ (List.mem_append_left _ (List.mem_append_left _ (List.mem_append_right _ h)))) (by decide +kernel))
set_option maxRecDepth 20000 in
theorem gL_spillTime_X9_spillTime : GoodIn wsL_spillTime (wsV RL 109 RX9 yX9_spillTime wsX9_spillTime) := goodIn_app (goodIn_of _ (by decide +kernel)) ggL_spillTime_X9_spillTime
theorem dL_spillTime_0 : decode cL_spillTime 0 = .ok (.aload_n 2, 1) := by decide +kernel
theorem dL_spillTime_1 : decode cL_spillTime 1 = .ok (.iconst 0, 1) := by decide +kernel
theorem dL_spillTime_2 : decode cL_spillTime 2 = .ok (.aload_n 0, 1) := by decide +kernel
theorem dL_spillTime_3 : decode cL_spillTime 3 = .ok (.iload_n 1, 1) := by decide +kernel
theorem dL_spillTime_4 : decode cL_spillTime 4 = .ok (.invokevirtual 109, 3) := by decide +kernel
theorem dL_spillTime_7 : decode cL_spillTime 7 = .ok (.i2l, 1) := by decide +kernel
theorem dL_spillTime_8 : decode cL_spillTime 8 = .ok (.lastore, 1) := by decide +kernel
theorem dL_spillTime_9 : decode cL_spillTime 9 = .ok (.goto 9, 3) := by decide +kernel
theorem dL_spillTime_12 : decode cL_spillTime 12 = .ok (.astore_n 3, 1) := by decide +kernel
theorem dL_spillTime_13 : decode cL_spillTime 13 = .ok (.iconst 1, 1) := by decide +kernel
theorem dL_spillTime_14 : decode cL_spillTime 14 = .ok (.ireturn, 1) := by decide +kernel
theorem dL_spillTime_15 : decode cL_spillTime 15 = .ok (.astore_n 3, 1) := by decide +kernel
theorem dL_spillTime_16 : decode cL_spillTime 16 = .ok (.iconst 2, 1) := by decide +kernel
theorem dL_spillTime_17 : decode cL_spillTime 17 = .ok (.ireturn, 1) := by decide +kernel
theorem dL_spillTime_18 : decode cL_spillTime 18 = .ok (.iconst 0, 1) := by decide +kernel
theorem dL_spillTime_19 : decode cL_spillTime 19 = .ok (.ireturn, 1) := by decide +kernel
set_option maxRecDepth 20000 in
theorem ggL_spillCount_X9_spillCount : GoodIn wsL_spillCount wsX9_spillCount := goodIn_ca (goodIn_ca (goodIn_r _ [6, 7, 8, 9, 10, 11, 5, 12, 13, 14, 15, 16, 17, 18, 19, 20, 21, 22, 23, 24, 25, 26, 27, 28, 29, 30, 31, 32, 33, 34, 35, 36, 37, 38, 39, 40] (by decide +kernel) (by decide +kernel)) (goodIn_sub (fun _ h => List.mem_cons_of_mem _ (List.mem_append_right _ h)) (by decide +kernel))) (goodIn_sub (fun _ h => List.mem_cons_of_mem _ (List.mem_append_left _ (List.mem_append_right _ h))) (by decide +kernel))
set_option maxRecDepth 20000 in
theorem gL_spillCount_X9_spillCount : GoodIn wsL_spillCount (wsV RL 112 RX9 yX9_spillCount wsX9_spillCount) := goodIn_app (goodIn_of _ (by decide +kernel)) ggL_spillCount_X9_spillCount
theorem dL_spillCount_0 : decode cL_spillCount 0 = .ok (.aload_n 1, 1) := by decide +kernel
theorem dL_spillCount_1 : decode cL_spillCount 1 = .ok (.iconst 0, 1) := by decide +kernel
theorem dL_spillCount_2 : decode cL_spillCount 2 = .ok (.aload_n 0, 1) := by decide +kernel
theorem dL_spillCount_3 : decode cL_spillCount 3 = .ok (.invokevirtual 112, 3) := by decide +kernel
theorem dL_spillCount_6 : decode cL_spillCount 6 = .ok (.i2l, 1) := by decide +kernel
theorem dL_spillCount_7 : decode cL_spillCount 7 = .ok (.lastore, 1) := by decide +kernel
theorem dL_spillCount_8 : decode cL_spillCount 8 = .ok (.goto 6, 3) := by decide +kernel
theorem dL_spillCount_11 : decode cL_spillCount 11 = .ok (.astore_n 2, 1) := by decide +kernel
theorem dL_spillCount_12 : decode cL_spillCount 12 = .ok (.iconst 1, 1) := by decide +kernel
theorem dL_spillCount_13 : decode cL_spillCount 13 = .ok (.ireturn, 1) := by decide +kernel
theorem dL_spillCount_14 : decode cL_spillCount 14 = .ok (.iconst 0, 1) := by decide +kernel
theorem dL_spillCount_15 : decode cL_spillCount 15 = .ok (.ireturn, 1) := by decide +kernel
set_option maxRecDepth 20000 in
theorem ggL_recordCount_X9_recordCount : GoodIn wsL_recordCount wsX9_recordCount := goodIn_ca (goodIn_r _ [6, 7, 8, 9, 10, 11, 12, 5, 13, 14, 15, 16, 17, 18, 19, 20, 21, 22, 23, 24, 25, 26, 27, 28, 29, 30, 31, 32, 33, 34, 35, 36, 37, 38, 39, 40, 41] (by decide +kernel) (by decide +kernel)) (goodIn_sub (fun _ h => List.mem_cons_of_mem _ (List.mem_append_right _ h)) (by decide +kernel))
set_option maxRecDepth 20000 in
theorem gL_recordCount_X9_recordCount : GoodIn wsL_recordCount (wsV RL 115 RX9 yX9_recordCount wsX9_recordCount) := goodIn_app (goodIn_of _ (by decide +kernel)) ggL_recordCount_X9_recordCount
theorem dL_recordCount_0 : decode cL_recordCount 0 = .ok (.aload_n 1, 1) := by decide +kernel
theorem dL_recordCount_1 : decode cL_recordCount 1 = .ok (.iconst 0, 1) := by decide +kernel
theorem dL_recordCount_2 : decode cL_recordCount 2 = .ok (.aload_n 0, 1) := by decide +kernel
theorem dL_recordCount_3 : decode cL_recordCount 3 = .ok (.invokevirtual 115, 3) := by decide +kernel
theorem dL_recordCount_6 : decode cL_recordCount 6 = .ok (.i2l, 1) := by decide +kernel
theorem dL_recordCount_7 : decode cL_recordCount 7 = .ok (.lastore, 1) := by decide +kernel
theorem dL_recordCount_8 : decode cL_recordCount 8 = .ok (.goto 6, 3) := by decide +kernel
theorem dL_recordCount_11 : decode cL_recordCount 11 = .ok (.astore_n 2, 1) := by decide +kernel
theorem dL_recordCount_12 : decode cL_recordCount 12 = .ok (.iconst 1, 1) := by decide +kernel
theorem dL_recordCount_13 : decode cL_recordCount 13 = .ok (.ireturn, 1) := by decide +kernel
theorem dL_recordCount_14 : decode cL_recordCount 14 = .ok (.iconst 0, 1) := by decide +kernel
theorem dL_recordCount_15 : decode cL_recordCount 15 = .ok (.ireturn, 1) := by decide +kernel
set_option maxRecDepth 20000 in
theorem ggL_recordNight_X9_recordNight : GoodIn wsL_recordNight wsX9_recordNight := goodIn_ca (goodIn_ca (goodIn_ca (goodIn_r _ [6, 7, 8, 9, 10, 11, 12, 5, 13, 14, 15, 16, 17, 18, 19, 20, 21, 22, 23, 24, 25, 26, 27, 28, 29, 30, 31, 32, 33, 34, 35, 36, 37, 38, 39, 40, 41, 42, 43, 44, 45, 46, 47, 48, 49, 50, 51] (by decide +kernel) (by decide +kernel)) (goodIn_sub (fun _ h => List.mem_cons_of_mem _ (List.mem_append_left _ (List.mem_append_right _ h))) (by decide +kernel))) (goodIn_sub (fun _ h => List.mem_cons_of_mem _ (List.mem_append_right _ h)) (by decide +kernel))) (goodIn_sub (fun _ h => List.mem_cons_of_mem _ (List.mem_append_left _ (List.mem_append_left _ (List.mem_append_right _ h)))) (by decide +kernel))
set_option maxRecDepth 20000 in
theorem gL_recordNight_X9_recordNight : GoodIn wsL_recordNight (wsV RL 118 RX9 yX9_recordNight wsX9_recordNight) := goodIn_app (goodIn_of _ (by decide +kernel)) ggL_recordNight_X9_recordNight
theorem dL_recordNight_0 : decode cL_recordNight 0 = .ok (.aload_n 2, 1) := by decide +kernel
theorem dL_recordNight_1 : decode cL_recordNight 1 = .ok (.iconst 0, 1) := by decide +kernel
theorem dL_recordNight_2 : decode cL_recordNight 2 = .ok (.aload_n 0, 1) := by decide +kernel
theorem dL_recordNight_3 : decode cL_recordNight 3 = .ok (.iload_n 1, 1) := by decide +kernel
theorem dL_recordNight_4 : decode cL_recordNight 4 = .ok (.invokevirtual 118, 3) := by decide +kernel
theorem dL_recordNight_7 : decode cL_recordNight 7 = .ok (.i2l, 1) := by decide +kernel
theorem dL_recordNight_8 : decode cL_recordNight 8 = .ok (.lastore, 1) := by decide +kernel
theorem dL_recordNight_9 : decode cL_recordNight 9 = .ok (.goto 9, 3) := by decide +kernel
theorem dL_recordNight_12 : decode cL_recordNight 12 = .ok (.astore_n 3, 1) := by decide +kernel
theorem dL_recordNight_13 : decode cL_recordNight 13 = .ok (.iconst 1, 1) := by decide +kernel
theorem dL_recordNight_14 : decode cL_recordNight 14 = .ok (.ireturn, 1) := by decide +kernel
theorem dL_recordNight_15 : decode cL_recordNight 15 = .ok (.astore_n 3, 1) := by decide +kernel
theorem dL_recordNight_16 : decode cL_recordNight 16 = .ok (.iconst 2, 1) := by decide +kernel
theorem dL_recordNight_17 : decode cL_recordNight 17 = .ok (.ireturn, 1) := by decide +kernel
theorem dL_recordNight_18 : decode cL_recordNight 18 = .ok (.iconst 0, 1) := by decide +kernel
theorem dL_recordNight_19 : decode cL_recordNight 19 = .ok (.ireturn, 1) := by decide +kernel
set_option maxRecDepth 20000 in
theorem ggL_recordSteps_X9_recordSteps : GoodIn wsL_recordSteps wsX9_recordSteps := goodIn_ca (goodIn_ca (goodIn_ca (goodIn_r _ [6, 7, 8, 9, 10, 11, 12, 5, 13, 14, 15, 16, 17, 18, 19, 20, 21, 22, 23, 24, 25, 26, 27, 28, 29, 30, 31, 32, 33, 34, 35, 36, 37, 38, 39, 40, 41, 42, 43, 44, 45, 46, 47, 48, 49, 50, 51] (by decide +kernel) (by decide +kernel)) (goodIn_sub (fun _ h => List.mem_cons_of_mem _ (List.mem_append_left _ (List.mem_append_right _ h))) (by decide +kernel))) (goodIn_sub (fun _ h => List.mem_cons_of_mem _ (List.mem_append_right _ h)) (by decide +kernel))) (goodIn_sub (fun _ h => List.mem_cons_of_mem _ (List.mem_append_left _ (List.mem_append_left _ (List.mem_append_right _ h)))) (by decide +kernel))
set_option maxRecDepth 20000 in
theorem gL_recordSteps_X9_recordSteps : GoodIn wsL_recordSteps (wsV RL 121 RX9 yX9_recordSteps wsX9_recordSteps) := goodIn_app (goodIn_of _ (by decide +kernel)) ggL_recordSteps_X9_recordSteps
theorem dL_recordSteps_0 : decode cL_recordSteps 0 = .ok (.aload_n 2, 1) := by decide +kernel
theorem dL_recordSteps_1 : decode cL_recordSteps 1 = .ok (.iconst 0, 1) := by decide +kernel
theorem dL_recordSteps_2 : decode cL_recordSteps 2 = .ok (.aload_n 0, 1) := by decide +kernel
theorem dL_recordSteps_3 : decode cL_recordSteps 3 = .ok (.iload_n 1, 1) := by decide +kernel
theorem dL_recordSteps_4 : decode cL_recordSteps 4 = .ok (.invokevirtual 121, 3) := by decide +kernel
theorem dL_recordSteps_7 : decode cL_recordSteps 7 = .ok (.i2l, 1) := by decide +kernel
theorem dL_recordSteps_8 : decode cL_recordSteps 8 = .ok (.lastore, 1) := by decide +kernel
theorem dL_recordSteps_9 : decode cL_recordSteps 9 = .ok (.goto 9, 3) := by decide +kernel
theorem dL_recordSteps_12 : decode cL_recordSteps 12 = .ok (.astore_n 3, 1) := by decide +kernel
theorem dL_recordSteps_13 : decode cL_recordSteps 13 = .ok (.iconst 1, 1) := by decide +kernel
theorem dL_recordSteps_14 : decode cL_recordSteps 14 = .ok (.ireturn, 1) := by decide +kernel
theorem dL_recordSteps_15 : decode cL_recordSteps 15 = .ok (.astore_n 3, 1) := by decide +kernel
