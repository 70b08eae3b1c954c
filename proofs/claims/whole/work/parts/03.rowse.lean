theorem dL_recordSteps_16 : decode cL_recordSteps 16 = .ok (.iconst 2, 1) := by decide +kernel
theorem dL_recordSteps_17 : decode cL_recordSteps 17 = .ok (.ireturn, 1) := by decide +kernel
theorem dL_recordSteps_18 : decode cL_recordSteps 18 = .ok (.iconst 0, 1) := by decide +kernel
theorem dL_recordSteps_19 : decode cL_recordSteps 19 = .ok (.ireturn, 1) := by decide +kernel
set_option maxRecDepth 20000 in
theorem ggL_rankOf_X9_rankOf : GoodIn wsL_rankOf wsX9_rankOf := goodIn_ca (goodIn_ca (goodIn_ca (goodIn_r _ [6, 7, 8, 9, 10, 11, 12, 13, 5, 14, 15, 16, 17, 18, 19, 20, 21, 22, 23, 24, 25, 26, 27, 28, 29, 30, 31, 32, 33, 34, 35, 36, 37, 38, 39, 40, 41, 42, 43, 44, 45, 46, 47, 48, 49] (by decide +kernel) (by decide +kernel)) (goodIn_sub (fun _ h => List.mem_cons_of_mem _ (List.mem_append_left _ (List.mem_append_right _ h))) (by decide +kernel))) (goodIn_sub (fun _ h => List.mem_cons_of_mem _ (List.mem_append_right _ h)) (by decide +kernel))) (goodIn_sub (fun _ h => List.mem_cons_of_mem _ (List.mem_append_left _ (List.mem_append_left _ (List.mem_append_right _ h)))) (by decide +kernel))
set_option maxRecDepth 20000 in
theorem gL_rankOf_X9_rankOf : GoodIn wsL_rankOf (wsV RL 124 RX9 yX9_rankOf wsX9_rankOf) := goodIn_app (goodIn_of _ (by decide +kernel)) ggL_rankOf_X9_rankOf
theorem dL_rankOf_0 : decode cL_rankOf 0 = .ok (.aload_n 2, 1) := by decide +kernel
theorem dL_rankOf_1 : decode cL_rankOf 1 = .ok (.iconst 0, 1) := by decide +kernel
theorem dL_rankOf_2 : decode cL_rankOf 2 = .ok (.aload_n 0, 1) := by decide +kernel
theorem dL_rankOf_3 : decode cL_rankOf 3 = .ok (.iload_n 1, 1) := by decide +kernel
theorem dL_rankOf_4 : decode cL_rankOf 4 = .ok (.invokevirtual 124, 3) := by decide +kernel
theorem dL_rankOf_7 : decode cL_rankOf 7 = .ok (.i2l, 1) := by decide +kernel
theorem dL_rankOf_8 : decode cL_rankOf 8 = .ok (.lastore, 1) := by decide +kernel
theorem dL_rankOf_9 : decode cL_rankOf 9 = .ok (.goto 9, 3) := by decide +kernel
theorem dL_rankOf_12 : decode cL_rankOf 12 = .ok (.astore_n 3, 1) := by decide +kernel
theorem dL_rankOf_13 : decode cL_rankOf 13 = .ok (.iconst 1, 1) := by decide +kernel
theorem dL_rankOf_14 : decode cL_rankOf 14 = .ok (.ireturn, 1) := by decide +kernel
theorem dL_rankOf_15 : decode cL_rankOf 15 = .ok (.astore_n 3, 1) := by decide +kernel
theorem dL_rankOf_16 : decode cL_rankOf 16 = .ok (.iconst 2, 1) := by decide +kernel
theorem dL_rankOf_17 : decode cL_rankOf 17 = .ok (.ireturn, 1) := by decide +kernel
theorem dL_rankOf_18 : decode cL_rankOf 18 = .ok (.iconst 0, 1) := by decide +kernel
theorem dL_rankOf_19 : decode cL_rankOf 19 = .ok (.ireturn, 1) := by decide +kernel
set_option maxRecDepth 20000 in
theorem ggL_imbalance_X9_imbalance : GoodIn wsL_imbalance wsX9_imbalance := goodIn_ca (goodIn_ca (goodIn_r _ [6, 7, 8, 9, 10, 11, 12, 13, 14, 5, 15, 16, 17, 18, 19, 20, 21, 22, 23, 24, 25, 26, 27, 28, 29, 30, 31, 32, 33, 34, 35, 36, 37, 38, 39, 40, 41, 42, 43, 44, 45, 46, 47, 48, 49, 50, 51, 52] (by decide +kernel) (by decide +kernel)) (goodIn_sub (fun _ h => List.mem_cons_of_mem _ (List.mem_append_right _ h)) (by decide +kernel))) (goodIn_sub (fun _ h => List.mem_cons_of_mem _ (List.mem_append_left _ (List.mem_append_right _ h))) (by decide +kernel))
set_option maxRecDepth 20000 in
theorem gL_imbalance_X9_imbalance : GoodIn wsL_imbalance (wsV RL 127 RX9 yX9_imbalance wsX9_imbalance) := goodIn_app (goodIn_of _ (by decide +kernel)) ggL_imbalance_X9_imbalance
theorem dL_imbalance_0 : decode cL_imbalance 0 = .ok (.aload_n 1, 1) := by decide +kernel
theorem dL_imbalance_1 : decode cL_imbalance 1 = .ok (.iconst 0, 1) := by decide +kernel
theorem dL_imbalance_2 : decode cL_imbalance 2 = .ok (.aload_n 0, 1) := by decide +kernel
theorem dL_imbalance_3 : decode cL_imbalance 3 = .ok (.invokevirtual 127, 3) := by decide +kernel
theorem dL_imbalance_6 : decode cL_imbalance 6 = .ok (.i2l, 1) := by decide +kernel
theorem dL_imbalance_7 : decode cL_imbalance 7 = .ok (.lastore, 1) := by decide +kernel
theorem dL_imbalance_8 : decode cL_imbalance 8 = .ok (.goto 6, 3) := by decide +kernel
theorem dL_imbalance_11 : decode cL_imbalance 11 = .ok (.astore_n 2, 1) := by decide +kernel
theorem dL_imbalance_12 : decode cL_imbalance 12 = .ok (.iconst 1, 1) := by decide +kernel
theorem dL_imbalance_13 : decode cL_imbalance 13 = .ok (.ireturn, 1) := by decide +kernel
theorem dL_imbalance_14 : decode cL_imbalance 14 = .ok (.iconst 0, 1) := by decide +kernel
theorem dL_imbalance_15 : decode cL_imbalance 15 = .ok (.ireturn, 1) := by decide +kernel
set_option maxRecDepth 20000 in
theorem ggL_averageWear_X9_averageWear : GoodIn wsL_averageWear wsX9_averageWear := goodIn_ca (goodIn_ca (goodIn_r _ [6, 7, 8, 9, 10, 11, 5, 12, 13, 14, 15, 16, 17, 18, 19, 20, 21, 22, 23, 24, 25, 26, 27, 28, 29, 30, 31, 32, 33, 34, 35, 36, 37, 38, 39, 40, 41, 42, 43, 44, 45, 46, 47, 48, 49, 50, 51, 52, 53, 54, 55, 56, 57, 58, 59, 60, 61] (by decide +kernel) (by decide +kernel)) (goodIn_sub (fun _ h => List.mem_cons_of_mem _ (List.mem_append_right _ h)) (by decide +kernel))) (goodIn_sub (fun _ h => List.mem_cons_of_mem _ (List.mem_append_left _ (List.mem_append_right _ h))) (by decide +kernel))
set_option maxRecDepth 20000 in
theorem gL_averageWear_X9_averageWear : GoodIn wsL_averageWear (wsV RL 130 RX9 yX9_averageWear wsX9_averageWear) := goodIn_app (goodIn_of _ (by decide +kernel)) ggL_averageWear_X9_averageWear
theorem dL_averageWear_0 : decode cL_averageWear 0 = .ok (.aload_n 1, 1) := by decide +kernel
theorem dL_averageWear_1 : decode cL_averageWear 1 = .ok (.iconst 0, 1) := by decide +kernel
theorem dL_averageWear_2 : decode cL_averageWear 2 = .ok (.aload_n 0, 1) := by decide +kernel
theorem dL_averageWear_3 : decode cL_averageWear 3 = .ok (.invokevirtual 130, 3) := by decide +kernel
theorem dL_averageWear_6 : decode cL_averageWear 6 = .ok (.dastore, 1) := by decide +kernel
theorem dL_averageWear_7 : decode cL_averageWear 7 = .ok (.goto 6, 3) := by decide +kernel
theorem dL_averageWear_10 : decode cL_averageWear 10 = .ok (.astore_n 2, 1) := by decide +kernel
theorem dL_averageWear_11 : decode cL_averageWear 11 = .ok (.iconst 1, 1) := by decide +kernel
theorem dL_averageWear_12 : decode cL_averageWear 12 = .ok (.ireturn, 1) := by decide +kernel
theorem dL_averageWear_13 : decode cL_averageWear 13 = .ok (.iconst 0, 1) := by decide +kernel
theorem dL_averageWear_14 : decode cL_averageWear 14 = .ok (.ireturn, 1) := by decide +kernel
set_option maxRecDepth 20000 in
theorem ggL_litShare_X9_litShare : GoodIn wsL_litShare wsX9_litShare := goodIn_ca (goodIn_ca (goodIn_r _ [6, 7, 8, 9, 10, 5, 11, 12, 13, 14, 15, 16, 17, 18, 19, 20, 21, 22, 23, 24, 25, 26, 27, 28, 29, 30, 31, 32, 33, 34, 35, 36, 37, 38, 39, 40, 41, 42, 43, 44, 45, 46, 47, 48, 49, 50, 51, 52, 53, 54, 55, 56, 57, 58, 59, 60, 61, 62, 63, 64, 65, 66, 67, 68, 69, 70, 71, 72, 73, 74, 75, 76, 77, 78, 79, 80, 81, 82, 83, 84, 85, 86, 87, 88, 89, 90, 91, 92, 93, 94, 95, 96, 97, 98, 99] (by decide +kernel) (by decide +kernel)) (goodIn_sub (fun _ h => List.mem_cons_of_mem _ (List.mem_append_right _ h)) (by decide +kernel))) (goodIn_sub (fun _ h => List.mem_cons_of_mem _ (List.mem_append_left _ (List.mem_append_right _ h))) (by decide +kernel))
set_option maxRecDepth 20000 in
theorem gL_litShare_X9_litShare : GoodIn wsL_litShare (wsV RL 134 RX9 yX9_litShare wsX9_litShare) := goodIn_app (goodIn_of _ (by decide +kernel)) ggL_litShare_X9_litShare
theorem dL_litShare_0 : decode cL_litShare 0 = .ok (.aload_n 1, 1) := by decide +kernel
theorem dL_litShare_1 : decode cL_litShare 1 = .ok (.iconst 0, 1) := by decide +kernel
theorem dL_litShare_2 : decode cL_litShare 2 = .ok (.aload_n 0, 1) := by decide +kernel
theorem dL_litShare_3 : decode cL_litShare 3 = .ok (.invokevirtual 134, 3) := by decide +kernel
theorem dL_litShare_6 : decode cL_litShare 6 = .ok (.f2d, 1) := by decide +kernel
theorem dL_litShare_7 : decode cL_litShare 7 = .ok (.dastore, 1) := by decide +kernel
theorem dL_litShare_8 : decode cL_litShare 8 = .ok (.goto 6, 3) := by decide +kernel
theorem dL_litShare_11 : decode cL_litShare 11 = .ok (.astore_n 2, 1) := by decide +kernel
theorem dL_litShare_12 : decode cL_litShare 12 = .ok (.iconst 1, 1) := by decide +kernel
theorem dL_litShare_13 : decode cL_litShare 13 = .ok (.ireturn, 1) := by decide +kernel
theorem dL_litShare_14 : decode cL_litShare 14 = .ok (.iconst 0, 1) := by decide +kernel
theorem dL_litShare_15 : decode cL_litShare 15 = .ok (.ireturn, 1) := by decide +kernel
set_option maxRecDepth 20000 in
theorem ggL_stepsAfter_X9_stepsAfter : GoodIn wsL_stepsAfter wsX9_stepsAfter := goodIn_ca (goodIn_ca (goodIn_ca (goodIn_r _ [6, 7, 8, 9, 10, 11, 5, 12, 13, 14, 15, 16, 17, 18, 19, 20, 21, 22, 23, 24, 25, 26, 27, 28, 29, 30, 31, 32, 33, 34, 35, 36, 37, 38, 39, 40, 41, 42, 43, 44, 45, 46, 47, 48, 49, 50, 51, 52, 53, 54, 55, 56, 57, 58, 59, 60, 61, 62, 63, 64, 65, 66, 67, 68, 69, 70, 71, 72, 73, 74, 75, 76, 77, 78, 79, 80, 81, 82, 83, 84, 85, 86, 87, 88, 89, 90, 91, 92, 93, 94, 95, 96, 97, 98, 99, 100, 101, 102, 103, 104, 105, 106, 107, 108, 109, 110, 111, 112, 113, 114, 115, 116, 117, 118, 119, 120, 121, 122, 123, 124, 125, 126, 127, 128, 129, 130, 131, 132, 133, 134, 135, 136, 137, 138, 139, 140, 141, 142, 143, 144, 145, 146, 147, 148, 149, 150, 151, 152, 153, 154, 155, 156, 157, 158, 159, 160, 161, 162, 163, 164, 165, 166, 167, 168, 169, 170, 171, 172, 173, 174, 175, 176, 177, 178, 179, 180, 181, 182, 183, 184, 185, 186, 187, 188, 189, 190, 191, 192, 193, 194, 195, 196, 197, 198, 199, 200, 201, 202, 203, 204, 205, 206, 207, 208, 209, 210, 211, 212, 213, 214, 215, 216, 217, 218, 219, 220, 221, 222, 223, 224, 225, 226, 227, 228, 229, 230, 231, 232, 233, 234, 235, 236, 237, 238, 239, 240, 241, 242, 243, 244, 245, 246, 247, 248, 249, 250, 251, 252, 253, 254, 255, 256, 257, 258, 259, 260, 261, 262, 263, 264, 265, 266, 267, 268, 269, 270, 271, 272, 273, 274, 275, 276, 277, 278, 279, 280, 281, 282, 283, 284, 285, 286, 287, 288, 289, 290, 291, 292, 293, 294, 295, 296, 297, 298, 299, 300, 301, 302, 303, 304] (by decide +kernel) (by decide +kernel)) (goodIn_sub (fun _ h => List.mem_cons_of_mem _ (List.mem_append_left _ (List.mem_append_right _ h))) (by decide +kernel))) (goodIn_sub (fun _ h => List.mem_cons_of_mem _ (List.mem_append_right _ h)) (by decide +kernel))) (goodIn_sub (fun _ h => List.mem_cons_of_mem _ (List.mem_append_left _ (List.mem_append_left _ (List.mem_append_right _ h)))) (by decide +kernel))
set_option maxRecDepth 20000 in
theorem gL_stepsAfter_X9_stepsAfter : GoodIn wsL_stepsAfter (wsV RL 138 RX9 yX9_stepsAfter wsX9_stepsAfter) := goodIn_app (goodIn_of _ (by decide +kernel)) ggL_stepsAfter_X9_stepsAfter
theorem dL_stepsAfter_0 : decode cL_stepsAfter 0 = .ok (.aload_n 2, 1) := by decide +kernel
theorem dL_stepsAfter_1 : decode cL_stepsAfter 1 = .ok (.iconst 0, 1) := by decide +kernel
theorem dL_stepsAfter_2 : decode cL_stepsAfter 2 = .ok (.aload_n 0, 1) := by decide +kernel
theorem dL_stepsAfter_3 : decode cL_stepsAfter 3 = .ok (.iload_n 1, 1) := by decide +kernel
theorem dL_stepsAfter_4 : decode cL_stepsAfter 4 = .ok (.invokevirtual 138, 3) := by decide +kernel
theorem dL_stepsAfter_7 : decode cL_stepsAfter 7 = .ok (.i2l, 1) := by decide +kernel
theorem dL_stepsAfter_8 : decode cL_stepsAfter 8 = .ok (.lastore, 1) := by decide +kernel
theorem dL_stepsAfter_9 : decode cL_stepsAfter 9 = .ok (.goto 9, 3) := by decide +kernel
theorem dL_stepsAfter_12 : decode cL_stepsAfter 12 = .ok (.astore_n 3, 1) := by decide +kernel
theorem dL_stepsAfter_13 : decode cL_stepsAfter 13 = .ok (.iconst 1, 1) := by decide +kernel
theorem dL_stepsAfter_14 : decode cL_stepsAfter 14 = .ok (.ireturn, 1) := by decide +kernel
theorem dL_stepsAfter_15 : decode cL_stepsAfter 15 = .ok (.astore_n 3, 1) := by decide +kernel
theorem dL_stepsAfter_16 : decode cL_stepsAfter 16 = .ok (.iconst 2, 1) := by decide +kernel
theorem dL_stepsAfter_17 : decode cL_stepsAfter 17 = .ok (.ireturn, 1) := by decide +kernel
theorem dL_stepsAfter_18 : decode cL_stepsAfter 18 = .ok (.iconst 0, 1) := by decide +kernel
theorem dL_stepsAfter_19 : decode cL_stepsAfter 19 = .ok (.ireturn, 1) := by decide +kernel
set_option maxRecDepth 20000 in
theorem ggL_walkerTileAfter_X9_walkerTileAfter : GoodIn wsL_walkerTileAfter wsX9_walkerTileAfter := goodIn_ca (goodIn_ca (goodIn_ca (goodIn_r _ [6, 7, 8, 9, 10, 11, 12, 13, 5, 14, 15, 16, 17, 18, 19, 20, 21, 22, 23, 24, 25, 26, 27, 28, 29, 30, 31, 32, 33, 34, 35, 36, 37, 38, 39, 40, 41, 42, 43, 44, 45, 46, 47, 48, 49, 50, 51, 52, 53, 54, 55, 56, 57, 58, 59, 60, 61, 62, 63, 64, 65, 66, 67, 68, 69, 70, 71, 72, 73, 74, 75, 76, 77, 78, 79, 80, 81, 82, 83, 84, 85, 86, 87, 88, 89, 90, 91, 92, 93, 94, 95, 96, 97, 98, 99, 100, 101, 102, 103, 104, 105, 106, 107, 108, 109, 110, 111, 112, 113, 114, 115, 116, 117, 118, 119, 120, 121, 122, 123, 124, 125, 126, 127, 128, 129, 130, 131, 132, 133, 134, 135, 136, 137, 138, 139, 140, 141, 142, 143, 144, 145, 146, 147, 148, 149, 150, 151, 152, 153, 154, 155, 156, 157, 158, 159, 160, 161, 162, 163, 164, 165, 166, 167, 168, 169, 170, 171, 172, 173, 174, 175, 176, 177, 178, 179, 180, 181, 182, 183, 184, 185, 186, 187, 188, 189, 190, 191, 192, 193, 194, 195, 196, 197, 198, 199, 200, 201, 202, 203, 204, 205, 206, 207, 208, 209, 210, 211, 212, 213, 214, 215, 216, 217, 218, 219, 220, 221, 222, 223, 224, 225, 226, 227, 228, 229, 230, 231, 232, 233, 234, 235, 236, 237, 238, 239, 240, 241, 242, 243, 244, 245, 246, 247, 248, 249, 250, 251, 252, 253, 254, 255, 256, 257, 258, 259, 260, 261, 262, 263, 264, 265, 266, 267, 268, 269, 270, 271, 272, 273, 274, 275, 276, 277, 278, 279, 280, 281, 282, 283, 284, 285, 286, 287, 288, 289, 290, 291, 292, 293, 294, 295, 296, 297, 298, 299] (by decide +kernel) (by decide +kernel)) (goodIn_sub (fun _ h => List.mem_cons_of_mem _ (List.mem_append_left _ (List.mem_append_right _ h))) (by decide +kernel))) (goodIn_sub (fun _ h => List.mem_cons_of_mem _ (List.mem_append_right _ h)) (by decide +kernel))) (goodIn_sub (fun _ h => List.mem_cons_of_mem _ (List.mem_append_left _ (List.mem_append_left _ (List.mem_append_right _ h)))) (by decide +kernel))
set_option maxRecDepth 20000 in
theorem gL_walkerTileAfter_X9_walkerTileAfter : GoodIn wsL_walkerTileAfter (wsV RL 141 RX9 yX9_walkerTileAfter wsX9_walkerTileAfter) := goodIn_app (goodIn_of _ (by decide +kernel)) ggL_walkerTileAfter_X9_walkerTileAfter
theorem dL_walkerTileAfter_0 : decode cL_walkerTileAfter 0 = .ok (.aload_n 2, 1) := by decide +kernel
theorem dL_walkerTileAfter_1 : decode cL_walkerTileAfter 1 = .ok (.iconst 0, 1) := by decide +kernel
theorem dL_walkerTileAfter_2 : decode cL_walkerTileAfter 2 = .ok (.aload_n 0, 1) := by decide +kernel
theorem dL_walkerTileAfter_3 : decode cL_walkerTileAfter 3 = .ok (.iload_n 1, 1) := by decide +kernel
theorem dL_walkerTileAfter_4 : decode cL_walkerTileAfter 4 = .ok (.invokevirtual 141, 3) := by decide +kernel
theorem dL_walkerTileAfter_7 : decode cL_walkerTileAfter 7 = .ok (.i2l, 1) := by decide +kernel
theorem dL_walkerTileAfter_8 : decode cL_walkerTileAfter 8 = .ok (.lastore, 1) := by decide +kernel
theorem dL_walkerTileAfter_9 : decode cL_walkerTileAfter 9 = .ok (.goto 9, 3) := by decide +kernel
theorem dL_walkerTileAfter_12 : decode cL_walkerTileAfter 12 = .ok (.astore_n 3, 1) := by decide +kernel
theorem dL_walkerTileAfter_13 : decode cL_walkerTileAfter 13 = .ok (.iconst 1, 1) := by decide +kernel
theorem dL_walkerTileAfter_14 : decode cL_walkerTileAfter 14 = .ok (.ireturn, 1) := by decide +kernel
theorem dL_walkerTileAfter_15 : decode cL_walkerTileAfter 15 = .ok (.astore_n 3, 1) := by decide +kernel
theorem dL_walkerTileAfter_16 : decode cL_walkerTileAfter 16 = .ok (.iconst 2, 1) := by decide +kernel
theorem dL_walkerTileAfter_17 : decode cL_walkerTileAfter 17 = .ok (.ireturn, 1) := by decide +kernel
theorem dL_walkerTileAfter_18 : decode cL_walkerTileAfter 18 = .ok (.iconst 0, 1) := by decide +kernel
theorem dL_walkerTileAfter_19 : decode cL_walkerTileAfter 19 = .ok (.ireturn, 1) := by decide +kernel
set_option maxRecDepth 20000 in
theorem ggL_spillTimeAfter_X9_spillTimeAfter : GoodIn wsL_spillTimeAfter wsX9_spillTimeAfter := goodIn_ca (goodIn_ca (goodIn_ca (goodIn_ca (goodIn_r _ [6, 7, 8, 9, 10, 11, 12, 5, 13, 14, 15, 16, 17, 18, 19, 20, 21, 22, 23, 24, 25, 26, 27, 28, 29, 30, 31, 32, 33, 34, 35, 36, 37, 38, 39, 40, 41, 42, 43, 44, 45, 46, 47, 48, 49, 50, 51, 52, 53, 54, 55, 56, 57, 58, 59, 60, 61, 62, 63, 64, 65, 66, 67, 68, 69, 70, 71, 72, 73, 74, 75, 76, 77, 78, 79, 80, 81, 82, 83, 84, 85, 86, 87, 88, 89, 90, 91, 92, 93, 94, 95, 96, 97, 98, 99, 100, 101, 102, 103, 104, 105, 106, 107, 108, 109, 110, 111, 112, 113, 114, 115, 116, 117, 118, 119, 120, 121, 122, 123, 124, 125, 126, 127, 128, 129, 130, 131, 132, 133, 134, 135, 136, 137, 138, 139, 140, 141, 142, 143, 144, 145, 146, 147, 148, 149, 150, 151, 152, 153, 154, 155, 156, 157, 158, 159, 160, 161, 162, 163, 164, 165, 166, 167, 168, 169, 170, 171, 172, 173, 174, 175, 176, 177, 178, 179, 180, 181, 182, 183, 184, 185, 186, 187, 188, 189, 190, 191, 192, 193, 194, 195, 196, 197, 198, 199, 200, 201, 202, 203, 204, 205, 206, 207, 208, 209, 210, 211, 212, 213, 214, 215, 216, 217, 218, 219, 220, 221, 222, 223, 224, 225, 226, 227, 228, 229, 230, 231, 232, 233, 234, 235, 236, 237, 238, 239, 240, 241, 242, 243, 244, 245, 246, 247, 248, 249, 250, 251, 252, 253, 254, 255, 256, 257, 258, 259, 260, 261, 262, 263, 264, 265, 266, 267, 268, 269, 270, 271, 272, 273, 274, 275, 276, 277, 278, 279, 280, 281, 282, 283, 284, 285, 286, 287, 288, 289, 290, 291, 292, 293, 294, 295, 296, 297, 298, 299, 300, 301, 302, 303, 304, 305, 306] (by decide +kernel) (by decide +kernel)) (goodIn_sub (fun _ h => List.mem_cons_of_mem _ (List.mem_append_left _ (List.mem_append_left _ (List.mem_append_right _ h)))) (by decide +kernel))) (goodIn_sub (fun _ h => List.mem_cons_of_mem _ (List.mem_append_left _ (List.mem_append_right _ h))) (by decide +kernel))) (goodIn_sub (fun _ h => List.mem_cons_of_mem _ (List.mem_append_right _ h)) (by decide +kernel))) (goodIn_sub (fun _ h => List.mem_cons_of_mem _ (List.mem_append_left _ (List.mem_append_left _ (List.mem_append_left _ (List.mem_append_right _ h))))) (by decide +kernel))
set_option maxRecDepth 20000 in
theorem gL_spillTimeAfter_X9_spillTimeAfter : GoodIn wsL_spillTimeAfter (wsV RL 144 RX9 yX9_spillTimeAfter wsX9_spillTimeAfter) := goodIn_app (goodIn_of _ (by decide +kernel)) ggL_spillTimeAfter_X9_spillTimeAfter
theorem dL_spillTimeAfter_0 : decode cL_spillTimeAfter 0 = .ok (.aload_n 3, 1) := by decide +kernel
theorem dL_spillTimeAfter_1 : decode cL_spillTimeAfter 1 = .ok (.iconst 0, 1) := by decide +kernel
theorem dL_spillTimeAfter_2 : decode cL_spillTimeAfter 2 = .ok (.aload_n 0, 1) := by decide +kernel
theorem dL_spillTimeAfter_3 : decode cL_spillTimeAfter 3 = .ok (.iload_n 1, 1) := by decide +kernel
theorem dL_spillTimeAfter_4 : decode cL_spillTimeAfter 4 = .ok (.iload_n 2, 1) := by decide +kernel
theorem dL_spillTimeAfter_5 : decode cL_spillTimeAfter 5 = .ok (.invokevirtual 144, 3) := by decide +kernel
theorem dL_spillTimeAfter_8 : decode cL_spillTimeAfter 8 = .ok (.i2l, 1) := by decide +kernel
theorem dL_spillTimeAfter_9 : decode cL_spillTimeAfter 9 = .ok (.lastore, 1) := by decide +kernel
theorem dL_spillTimeAfter_10 : decode cL_spillTimeAfter 10 = .ok (.goto 15, 3) := by decide +kernel
theorem dL_spillTimeAfter_13 : decode cL_spillTimeAfter 13 = .ok (.astore 4, 2) := by decide +kernel
theorem dL_spillTimeAfter_15 : decode cL_spillTimeAfter 15 = .ok (.iconst 1, 1) := by decide +kernel
theorem dL_spillTimeAfter_16 : decode cL_spillTimeAfter 16 = .ok (.ireturn, 1) := by decide +kernel
theorem dL_spillTimeAfter_17 : decode cL_spillTimeAfter 17 = .ok (.astore 4, 2) := by decide +kernel
theorem dL_spillTimeAfter_19 : decode cL_spillTimeAfter 19 = .ok (.iconst 2, 1) := by decide +kernel
theorem dL_spillTimeAfter_20 : decode cL_spillTimeAfter 20 = .ok (.ireturn, 1) := by decide +kernel
theorem dL_spillTimeAfter_21 : decode cL_spillTimeAfter 21 = .ok (.astore 4, 2) := by decide +kernel
theorem dL_spillTimeAfter_23 : decode cL_spillTimeAfter 23 = .ok (.iconst 3, 1) := by decide +kernel
theorem dL_spillTimeAfter_24 : decode cL_spillTimeAfter 24 = .ok (.ireturn, 1) := by decide +kernel
theorem dL_spillTimeAfter_25 : decode cL_spillTimeAfter 25 = .ok (.iconst 0, 1) := by decide +kernel
theorem dL_spillTimeAfter_26 : decode cL_spillTimeAfter 26 = .ok (.ireturn, 1) := by decide +kernel
set_option maxRecDepth 20000 in
theorem ggL_minutesUntilStep_X9_minutesUntilStep : GoodIn wsL_minutesUntilStep wsX9_minutesUntilStep := goodIn_ca (goodIn_ca (goodIn_ca (goodIn_r _ [6, 7, 8, 9, 10, 11, 12, 5, 13, 14, 15, 16, 17, 18, 19, 20, 21, 22, 23, 24, 25, 26, 27, 28, 29, 30, 31, 32, 33, 34, 35, 36, 37, 38, 39, 40, 41, 42, 43, 44, 45, 46, 47, 48, 49, 50, 51, 52, 53, 54, 55, 56, 57, 58, 59, 60, 61, 62, 63, 64, 65, 66, 67, 68, 69, 70, 71, 72, 73, 74, 75, 76, 77, 78, 79, 80, 81, 82, 83, 84, 85, 86, 87, 88, 89, 90, 91, 92, 93, 94, 95, 96, 97, 98, 99, 100, 101, 102, 103, 104, 105, 106, 107, 108, 109, 110, 111, 112, 113, 114, 115, 116, 117, 118, 119, 120, 121, 122, 123, 124, 125, 126, 127, 128, 129, 130, 131, 132, 133, 134, 135, 136, 137, 138, 139, 140, 141, 142, 143, 144, 145, 146, 147, 148, 149, 150, 151, 152, 153, 154, 155, 156, 157, 158, 159, 160, 161, 162, 163, 164, 165, 166, 167, 168, 169, 170, 171, 172, 173, 174, 175, 176, 177, 178, 179, 180, 181, 182, 183, 184, 185, 186, 187, 188, 189, 190, 191, 192, 193, 194, 195, 196, 197, 198, 199, 200, 201, 202, 203, 204, 205, 206, 207, 208, 209, 210, 211, 212, 213, 214, 215, 216, 217, 218, 219, 220, 221, 222, 223, 224, 225, 226, 227, 228, 229, 230, 231, 232, 233, 234, 235, 236, 237, 238, 239, 240, 241, 242, 243, 244, 245, 246, 247, 248, 249, 250, 251, 252, 253, 254, 255, 256, 257, 258, 259, 260, 261, 262, 263, 264, 265, 266, 267, 268, 269, 270, 271, 272, 273, 274, 275, 276, 277, 278, 279, 280, 281, 282, 283, 284, 285, 286, 287, 288, 289, 290, 291, 292, 293, 294, 295, 296] (by decide +kernel) (by decide +kernel)) (goodIn_sub (fun _ h => List.mem_cons_of_mem _ (List.mem_append_left _ (List.mem_append_right _ h))) (by decide +kernel))) (goodIn_sub (fun _ h => List.mem_cons_of_mem _ (List.mem_append_right _ h)) (by decide +kernel))) (goodIn_sub (fun _ h => List.mem_cons_of_mem _ (List.mem_append_left _ (List.mem_append_left _ (List.mem_append_right _ h)))) (by decide +kernel))
set_option maxRecDepth 20000 in
theorem gL_minutesUntilStep_X9_minutesUntilStep : GoodIn wsL_minutesUntilStep (wsV RL 148 RX9 yX9_minutesUntilStep wsX9_minutesUntilStep) := goodIn_app (goodIn_of _ (by decide +kernel)) ggL_minutesUntilStep_X9_minutesUntilStep
theorem dL_minutesUntilStep_0 : decode cL_minutesUntilStep 0 = .ok (.aload_n 2, 1) := by decide +kernel
theorem dL_minutesUntilStep_1 : decode cL_minutesUntilStep 1 = .ok (.iconst 0, 1) := by decide +kernel
theorem dL_minutesUntilStep_2 : decode cL_minutesUntilStep 2 = .ok (.aload_n 0, 1) := by decide +kernel
theorem dL_minutesUntilStep_3 : decode cL_minutesUntilStep 3 = .ok (.iload_n 1, 1) := by decide +kernel
theorem dL_minutesUntilStep_4 : decode cL_minutesUntilStep 4 = .ok (.invokevirtual 148, 3) := by decide +kernel
theorem dL_minutesUntilStep_7 : decode cL_minutesUntilStep 7 = .ok (.i2l, 1) := by decide +kernel
theorem dL_minutesUntilStep_8 : decode cL_minutesUntilStep 8 = .ok (.lastore, 1) := by decide +kernel
theorem dL_minutesUntilStep_9 : decode cL_minutesUntilStep 9 = .ok (.goto 9, 3) := by decide +kernel
theorem dL_minutesUntilStep_12 : decode cL_minutesUntilStep 12 = .ok (.astore_n 3, 1) := by decide +kernel
theorem dL_minutesUntilStep_13 : decode cL_minutesUntilStep 13 = .ok (.iconst 1, 1) := by decide +kernel
theorem dL_minutesUntilStep_14 : decode cL_minutesUntilStep 14 = .ok (.ireturn, 1) := by decide +kernel
theorem dL_minutesUntilStep_15 : decode cL_minutesUntilStep 15 = .ok (.astore_n 3, 1) := by decide +kernel
theorem dL_minutesUntilStep_16 : decode cL_minutesUntilStep 16 = .ok (.iconst 2, 1) := by decide +kernel
theorem dL_minutesUntilStep_17 : decode cL_minutesUntilStep 17 = .ok (.ireturn, 1) := by decide +kernel
theorem dL_minutesUntilStep_18 : decode cL_minutesUntilStep 18 = .ok (.iconst 0, 1) := by decide +kernel
theorem dL_minutesUntilStep_19 : decode cL_minutesUntilStep 19 = .ok (.ireturn, 1) := by decide +kernel
set_option maxRecDepth 20000 in
theorem ggL_minutesUntilFall_X9_minutesUntilFall : GoodIn wsL_minutesUntilFall wsX9_minutesUntilFall := goodIn_ca (goodIn_ca (goodIn_r _ [6, 7, 8, 9, 10, 11, 12, 13, 5, 14, 15, 16, 17, 18, 19, 20, 21, 22, 23, 24, 25, 26, 27, 28, 29, 30, 31, 32, 33, 34, 35, 36, 37, 38, 39, 40, 41, 42, 43, 44, 45, 46, 47, 48, 49, 50, 51, 52, 53, 54, 55, 56, 57, 58, 59, 60, 61, 62, 63, 64, 65, 66, 67, 68, 69, 70, 71, 72, 73, 74, 75, 76, 77, 78, 79, 80, 81, 82, 83, 84, 85, 86, 87, 88, 89, 90, 91, 92, 93, 94, 95, 96, 97, 98, 99, 100, 101, 102, 103, 104, 105, 106, 107, 108, 109, 110, 111, 112, 113, 114, 115, 116, 117, 118, 119, 120, 121, 122, 123, 124, 125, 126, 127, 128, 129, 130, 131, 132, 133, 134, 135, 136, 137, 138, 139, 140, 141, 142, 143, 144, 145, 146, 147, 148, 149, 150, 151, 152, 153, 154, 155, 156, 157, 158, 159, 160, 161, 162, 163, 164, 165, 166, 167, 168, 169, 170, 171, 172, 173, 174, 175, 176, 177, 178, 179, 180, 181, 182, 183, 184, 185, 186, 187, 188, 189, 190, 191, 192, 193, 194, 195, 196, 197, 198, 199, 200, 201, 202, 203, 204, 205, 206, 207, 208, 209, 210, 211, 212, 213, 214, 215, 216, 217, 218, 219, 220, 221, 222, 223, 224, 225, 226, 227, 228, 229, 230, 231, 232, 233, 234, 235, 236, 237, 238, 239, 240, 241, 242, 243, 244, 245, 246, 247, 248, 249, 250, 251, 252, 253, 254, 255, 256, 257, 258, 259, 260, 261, 262, 263, 264, 265, 266, 267, 268, 269, 270, 271, 272, 273, 274, 275, 276, 277, 278, 279, 280, 281, 282, 283, 284, 285, 286, 287, 288, 289] (by decide +kernel) (by decide +kernel)) (goodIn_sub (fun _ h => List.mem_cons_of_mem _ (List.mem_append_right _ h)) (by decide +kernel))) (goodIn_sub (fun _ h => List.mem_cons_of_mem _ (List.mem_append_left _ (List.mem_append_right _ h))) (by decide +kernel))
set_option maxRecDepth 20000 in
theorem gL_minutesUntilFall_X9_minutesUntilFall : GoodIn wsL_minutesUntilFall (wsV RL 151 RX9 yX9_minutesUntilFall wsX9_minutesUntilFall) := goodIn_app (goodIn_of _ (by decide +kernel)) ggL_minutesUntilFall_X9_minutesUntilFall
theorem dL_minutesUntilFall_0 : decode cL_minutesUntilFall 0 = .ok (.aload_n 1, 1) := by decide +kernel
theorem dL_minutesUntilFall_1 : decode cL_minutesUntilFall 1 = .ok (.iconst 0, 1) := by decide +kernel
theorem dL_minutesUntilFall_2 : decode cL_minutesUntilFall 2 = .ok (.aload_n 0, 1) := by decide +kernel
theorem dL_minutesUntilFall_3 : decode cL_minutesUntilFall 3 = .ok (.invokevirtual 151, 3) := by decide +kernel
theorem dL_minutesUntilFall_6 : decode cL_minutesUntilFall 6 = .ok (.i2l, 1) := by decide +kernel
theorem dL_minutesUntilFall_7 : decode cL_minutesUntilFall 7 = .ok (.lastore, 1) := by decide +kernel
theorem dL_minutesUntilFall_8 : decode cL_minutesUntilFall 8 = .ok (.goto 6, 3) := by decide +kernel
theorem dL_minutesUntilFall_11 : decode cL_minutesUntilFall 11 = .ok (.astore_n 2, 1) := by decide +kernel
theorem dL_minutesUntilFall_12 : decode cL_minutesUntilFall 12 = .ok (.iconst 1, 1) := by decide +kernel
theorem dL_minutesUntilFall_13 : decode cL_minutesUntilFall 13 = .ok (.ireturn, 1) := by decide +kernel
theorem dL_minutesUntilFall_14 : decode cL_minutesUntilFall 14 = .ok (.iconst 0, 1) := by decide +kernel
theorem dL_minutesUntilFall_15 : decode cL_minutesUntilFall 15 = .ok (.ireturn, 1) := by decide +kernel
set_option maxRecDepth 20000 in
theorem ggL_stepsAtPace_X9_stepsAtPace : GoodIn wsL_stepsAtPace wsX9_stepsAtPace := goodIn_ca (goodIn_ca (goodIn_ca (goodIn_r _ [6, 7, 8, 9, 5, 10, 11, 12, 13, 14, 15, 16, 17, 18, 19, 20, 21, 22, 23, 24, 25, 26, 27, 28, 29, 30, 31, 32, 33, 34, 35, 36, 37, 38, 39, 40, 41, 42, 43, 44, 45, 46, 47, 48, 49, 50, 51, 52, 53, 54, 55, 56, 57, 58, 59, 60, 61, 62, 63, 64, 65, 66, 67, 68, 69, 70, 71, 72, 73, 74, 75, 76, 77, 78, 79, 80, 81, 82, 83, 84, 85, 86, 87, 88, 89, 90, 91, 92, 93, 94, 95, 96, 97, 98, 99, 100, 101, 102, 103, 104, 105, 106, 107, 108, 109, 110, 111, 112, 113, 114, 115, 116, 117, 118, 119, 120, 121, 122, 123, 124, 125, 126, 127, 128, 129, 130, 131, 132, 133, 134, 135, 136, 137, 138, 139, 140, 141, 142, 143, 144, 145, 146, 147, 148, 149, 150, 151, 152, 153, 154, 155, 156, 157, 158, 159, 160, 161, 162, 163, 164, 165, 166, 167, 168, 169, 170, 171, 172, 173, 174, 175, 176, 177, 178, 179, 180, 181, 182, 183, 184, 185, 186, 187, 188, 189, 190, 191, 192, 193, 194, 195, 196, 197, 198, 199, 200, 201, 202, 203, 204, 205, 206, 207, 208, 209, 210, 211, 212, 213, 214, 215, 216, 217, 218, 219, 220, 221, 222, 223, 224, 225, 226, 227, 228, 229, 230, 231, 232, 233, 234, 235, 236, 237, 238, 239, 240, 241, 242, 243, 244, 245, 246, 247, 248, 249, 250, 251, 252, 253, 254, 255, 256, 257, 258, 259, 260, 261, 262, 263, 264, 265, 266, 267, 268, 269, 270, 271, 272, 273, 274, 275, 276, 277, 278, 279, 280, 281, 282, 283, 284, 285, 286, 287, 288, 289, 290, 291, 292, 293, 294, 295, 296, 297, 298, 299, 300, 301, 302, 303, 304, 305, 306, 307, 308] (by decide +kernel) (by decide +kernel)) (goodIn_sub (fun _ h => List.mem_cons_of_mem _ (List.mem_append_left _ (List.mem_append_right _ h))) (by decide +kernel))) (goodIn_sub (fun _ h => List.mem_cons_of_mem _ (List.mem_append_right _ h)) (by decide +kernel))) (goodIn_sub (fun _ h => List.mem_cons_of_mem _ (List.mem_append_left _ (List.mem_append_left _ (List.mem_append_right _ h)))) (by decide +kernel))
set_option maxRecDepth 20000 in
theorem gL_stepsAtPace_X9_stepsAtPace : GoodIn wsL_stepsAtPace (wsV RL 154 RX9 yX9_stepsAtPace wsX9_stepsAtPace) := goodIn_app (goodIn_of _ (by decide +kernel)) ggL_stepsAtPace_X9_stepsAtPace
theorem dL_stepsAtPace_0 : decode cL_stepsAtPace 0 = .ok (.aload_n 3, 1) := by decide +kernel
theorem dL_stepsAtPace_1 : decode cL_stepsAtPace 1 = .ok (.iconst 0, 1) := by decide +kernel
theorem dL_stepsAtPace_2 : decode cL_stepsAtPace 2 = .ok (.aload_n 0, 1) := by decide +kernel
theorem dL_stepsAtPace_3 : decode cL_stepsAtPace 3 = .ok (.iload_n 1, 1) := by decide +kernel
theorem dL_stepsAtPace_4 : decode cL_stepsAtPace 4 = .ok (.iload_n 2, 1) := by decide +kernel
theorem dL_stepsAtPace_5 : decode cL_stepsAtPace 5 = .ok (.invokevirtual 154, 3) := by decide +kernel
theorem dL_stepsAtPace_8 : decode cL_stepsAtPace 8 = .ok (.i2l, 1) := by decide +kernel
theorem dL_stepsAtPace_9 : decode cL_stepsAtPace 9 = .ok (.lastore, 1) := by decide +kernel
theorem dL_stepsAtPace_10 : decode cL_stepsAtPace 10 = .ok (.goto 11, 3) := by decide +kernel
theorem dL_stepsAtPace_13 : decode cL_stepsAtPace 13 = .ok (.astore 4, 2) := by decide +kernel
theorem dL_stepsAtPace_15 : decode cL_stepsAtPace 15 = .ok (.iconst 1, 1) := by decide +kernel
theorem dL_stepsAtPace_16 : decode cL_stepsAtPace 16 = .ok (.ireturn, 1) := by decide +kernel
theorem dL_stepsAtPace_17 : decode cL_stepsAtPace 17 = .ok (.astore 4, 2) := by decide +kernel
theorem dL_stepsAtPace_19 : decode cL_stepsAtPace 19 = .ok (.iconst 2, 1) := by decide +kernel
theorem dL_stepsAtPace_20 : decode cL_stepsAtPace 20 = .ok (.ireturn, 1) := by decide +kernel
theorem dL_stepsAtPace_21 : decode cL_stepsAtPace 21 = .ok (.iconst 0, 1) := by decide +kernel
theorem dL_stepsAtPace_22 : decode cL_stepsAtPace 22 = .ok (.ireturn, 1) := by decide +kernel
set_option maxRecDepth 20000 in
theorem ggL_bestPace_X9_bestPace : GoodIn wsL_bestPace wsX9_bestPace := goodIn_ca (goodIn_ca (goodIn_ca (goodIn_r _ [6, 7, 8, 9, 5, 10, 11, 12, 13, 14, 15, 16, 17, 18, 19, 20, 21, 22, 23, 24, 25, 26, 27, 28, 29, 30, 31, 32, 33, 34, 35, 36, 37, 38, 39, 40, 41, 42, 43, 44, 45, 46, 47, 48, 49, 50, 51, 52, 53, 54, 55, 56, 57, 58, 59, 60, 61, 62, 63, 64, 65, 66, 67, 68, 69, 70, 71, 72, 73, 74, 75, 76, 77, 78, 79, 80, 81, 82, 83, 84, 85, 86, 87, 88, 89, 90, 91, 92, 93, 94, 95, 96, 97, 98, 99, 100, 101, 102, 103, 104, 105, 106, 107, 108, 109, 110, 111, 112, 113, 114, 115, 116, 117, 118, 119, 120, 121, 122, 123, 124, 125, 126, 127, 128, 129, 130, 131, 132, 133, 134, 135, 136, 137, 138, 139, 140, 141, 142, 143, 144, 145, 146, 147, 148, 149, 150, 151, 152, 153, 154, 155, 156, 157, 158, 159, 160, 161, 162, 163, 164, 165, 166, 167, 168, 169, 170, 171, 172, 173, 174, 175, 176, 177, 178, 179, 180, 181, 182, 183, 184, 185, 186, 187, 188, 189, 190, 191, 192, 193, 194, 195, 196, 197, 198, 199, 200, 201, 202, 203, 204, 205, 206, 207, 208, 209, 210, 211, 212, 213, 214, 215, 216, 217, 218, 219, 220, 221, 222, 223, 224, 225, 226, 227, 228, 229, 230, 231, 232, 233, 234, 235, 236, 237, 238, 239, 240, 241, 242, 243, 244, 245, 246, 247, 248, 249, 250, 251, 252, 253, 254, 255, 256, 257, 258, 259, 260, 261, 262, 263, 264, 265, 266, 267, 268, 269, 270, 271, 272, 273, 274, 275, 276, 277, 278, 279, 280, 281, 282, 283, 284, 285, 286, 287, 288, 289, 290, 291, 292, 293, 294, 295, 296, 297, 298, 299, 300, 301, 302, 303, 304] (by decide +kernel) (by decide +kernel)) (goodIn_sub (fun _ h => List.mem_cons_of_mem _ (List.mem_append_left _ (List.mem_append_right _ h))) (by decide +kernel))) (goodIn_sub (fun _ h => List.mem_cons_of_mem _ (List.mem_append_right _ h)) (by decide +kernel))) (goodIn_sub (fun _ h => List.mem_cons_of_mem _ (List.mem_append_left _ (List.mem_append_left _ (List.mem_append_right _ h)))) (by decide +kernel))
set_option maxRecDepth 20000 in
theorem gL_bestPace_X9_bestPace : GoodIn wsL_bestPace (wsV RL 157 RX9 yX9_bestPace wsX9_bestPace) := goodIn_app (goodIn_of _ (by decide +kernel)) ggL_bestPace_X9_bestPace
theorem dL_bestPace_0 : decode cL_bestPace 0 = .ok (.aload_n 2, 1) := by decide +kernel
theorem dL_bestPace_1 : decode cL_bestPace 1 = .ok (.iconst 0, 1) := by decide +kernel
theorem dL_bestPace_2 : decode cL_bestPace 2 = .ok (.aload_n 0, 1) := by decide +kernel
theorem dL_bestPace_3 : decode cL_bestPace 3 = .ok (.iload_n 1, 1) := by decide +kernel
theorem dL_bestPace_4 : decode cL_bestPace 4 = .ok (.invokevirtual 157, 3) := by decide +kernel
theorem dL_bestPace_7 : decode cL_bestPace 7 = .ok (.i2l, 1) := by decide +kernel
theorem dL_bestPace_8 : decode cL_bestPace 8 = .ok (.lastore, 1) := by decide +kernel
theorem dL_bestPace_9 : decode cL_bestPace 9 = .ok (.goto 9, 3) := by decide +kernel
theorem dL_bestPace_12 : decode cL_bestPace 12 = .ok (.astore_n 3, 1) := by decide +kernel
theorem dL_bestPace_13 : decode cL_bestPace 13 = .ok (.iconst 1, 1) := by decide +kernel
theorem dL_bestPace_14 : decode cL_bestPace 14 = .ok (.ireturn, 1) := by decide +kernel
theorem dL_bestPace_15 : decode cL_bestPace 15 = .ok (.astore_n 3, 1) := by decide +kernel
theorem dL_bestPace_16 : decode cL_bestPace 16 = .ok (.iconst 2, 1) := by decide +kernel
theorem dL_bestPace_17 : decode cL_bestPace 17 = .ok (.ireturn, 1) := by decide +kernel
theorem dL_bestPace_18 : decode cL_bestPace 18 = .ok (.iconst 0, 1) := by decide +kernel
theorem dL_bestPace_19 : decode cL_bestPace 19 = .ok (.ireturn, 1) := by decide +kernel
set_option maxRecDepth 20000 in
theorem ggL_bestCurtain_X9_bestCurtain : GoodIn wsL_bestCurtain wsX9_bestCurtain := goodIn_ca (goodIn_ca (goodIn_ca (goodIn_r _ [6, 7, 8, 9, 10, 11, 12, 13, 14, 15, 16, 5, 17, 18, 19, 20, 21, 22, 23, 24, 25, 26, 27, 28, 29, 30, 31, 32, 33, 34, 35, 36, 37, 38, 39, 40, 41, 42, 43, 44, 45, 46, 47, 48, 49, 50, 51, 52, 53, 54, 55, 56, 57, 58, 59, 60, 61, 62, 63, 64, 65, 66, 67, 68, 69, 70, 71, 72, 73, 74, 75, 76, 77, 78, 79, 80, 81, 82, 83, 84, 85, 86, 87, 88, 89, 90, 91, 92, 93, 94, 95, 96, 97, 98, 99, 100, 101, 102, 103, 104, 105, 106, 107, 108, 109, 110, 111, 112, 113, 114, 115, 116, 117, 118, 119, 120, 121, 122, 123, 124, 125, 126, 127, 128, 129, 130, 131, 132, 133, 134, 135, 136, 137, 138, 139, 140, 141, 142, 143, 144, 145, 146, 147, 148, 149, 150, 151, 152, 153, 154, 155, 156, 157, 158, 159, 160, 161, 162, 163, 164, 165, 166, 167, 168, 169, 170, 171, 172, 173, 174, 175, 176, 177, 178, 179, 180, 181, 182, 183, 184, 185, 186, 187, 188, 189, 190, 191, 192, 193, 194, 195, 196, 197, 198, 199, 200, 201, 202, 203, 204, 205, 206, 207, 208, 209, 210, 211, 212, 213, 214, 215, 216, 217, 218, 219, 220, 221, 222, 223, 224, 225, 226, 227, 228, 229, 230, 231, 232, 233, 234, 235, 236, 237, 238, 239, 240, 241, 242, 243, 244, 245, 246, 247, 248, 249, 250, 251, 252, 253, 254, 255, 256, 257, 258, 259, 260, 261, 262, 263, 264, 265, 266, 267, 268, 269, 270, 271, 272, 273, 274, 275, 276, 277, 278, 279, 280, 281, 282, 283, 284, 285, 286, 287, 288, 289, 290, 291, 292, 293, 294, 295, 296, 297, 298, 299, 300, 301, 302, 303, 304] (by decide +kernel) (by decide +kernel)) (goodIn_sub (fun _ h => List.mem_cons_of_mem _ (List.mem_append_left _ (List.mem_append_right _ h))) (by decide +kernel))) (goodIn_sub (fun _ h => List.mem_cons_of_mem _ (List.mem_append_right _ h)) (by decide +kernel))) (goodIn_sub (fun _ h => List.mem_cons_of_mem _ (List.mem_append_left _ (List.mem_append_left _ (List.mem_append_right _ h)))) (by decide +kernel))
set_option maxRecDepth 20000 in
theorem gL_bestCurtain_X9_bestCurtain : GoodIn wsL_bestCurtain (wsV RL 160 RX9 yX9_bestCurtain wsX9_bestCurtain) := goodIn_app (goodIn_of _ (by decide +kernel)) ggL_bestCurtain_X9_bestCurtain
theorem dL_bestCurtain_0 : decode cL_bestCurtain 0 = .ok (.aload_n 2, 1) := by decide +kernel
theorem dL_bestCurtain_1 : decode cL_bestCurtain 1 = .ok (.iconst 0, 1) := by decide +kernel
theorem dL_bestCurtain_2 : decode cL_bestCurtain 2 = .ok (.aload_n 0, 1) := by decide +kernel
theorem dL_bestCurtain_3 : decode cL_bestCurtain 3 = .ok (.iload_n 1, 1) := by decide +kernel
theorem dL_bestCurtain_4 : decode cL_bestCurtain 4 = .ok (.invokevirtual 160, 3) := by decide +kernel
theorem dL_bestCurtain_7 : decode cL_bestCurtain 7 = .ok (.i2l, 1) := by decide +kernel
theorem dL_bestCurtain_8 : decode cL_bestCurtain 8 = .ok (.lastore, 1) := by decide +kernel
theorem dL_bestCurtain_9 : decode cL_bestCurtain 9 = .ok (.goto 9, 3) := by decide +kernel
theorem dL_bestCurtain_12 : decode cL_bestCurtain 12 = .ok (.astore_n 3, 1) := by decide +kernel
theorem dL_bestCurtain_13 : decode cL_bestCurtain 13 = .ok (.iconst 1, 1) := by decide +kernel
theorem dL_bestCurtain_14 : decode cL_bestCurtain 14 = .ok (.ireturn, 1) := by decide +kernel
theorem dL_bestCurtain_15 : decode cL_bestCurtain 15 = .ok (.astore_n 3, 1) := by decide +kernel
theorem dL_bestCurtain_16 : decode cL_bestCurtain 16 = .ok (.iconst 2, 1) := by decide +kernel
theorem dL_bestCurtain_17 : decode cL_bestCurtain 17 = .ok (.ireturn, 1) := by decide +kernel
theorem dL_bestCurtain_18 : decode cL_bestCurtain 18 = .ok (.iconst 0, 1) := by decide +kernel
theorem dL_bestCurtain_19 : decode cL_bestCurtain 19 = .ok (.ireturn, 1) := by decide +kernel
set_option maxRecDepth 20000 in
theorem ggL_writeRow_X9_writeRow : GoodIn wsL_writeRow wsX9_writeRow := goodIn_ca (goodIn_ca (goodIn_ca (goodIn_r _ [6, 7, 8, 9, 10, 11, 12, 13, 14, 15, 16, 5, 17, 18, 19, 20, 21, 22, 23, 24, 25, 26, 27, 28, 29, 30, 31, 32, 33, 34, 35, 36, 37, 38, 39, 40, 41, 42, 43, 44, 45, 46, 47, 48, 49, 50, 51, 52, 53, 54, 55, 56, 57, 58, 59, 60, 61, 62, 63, 64, 65, 66, 67, 68, 69, 70, 71, 72, 73, 74, 75, 76, 77, 78, 79, 80, 81, 82, 83, 84, 85, 86, 87, 88, 89, 90, 91, 92, 93, 94, 95, 96, 97, 98, 99, 100, 101, 102, 103, 104, 105, 106, 107, 108, 109, 110, 111, 112, 113, 114, 115, 116, 117, 118, 119, 120, 121, 122, 123, 124, 125, 126, 127, 128, 129, 130, 131, 132, 133, 134, 135, 136, 137, 138, 139, 140, 141, 142, 143, 144, 145, 146, 147, 148, 149, 150, 151, 152, 153, 154, 155, 156, 157, 158, 159, 160, 161, 162, 163, 164, 165, 166, 167, 168, 169, 170, 171, 172, 173, 174, 175, 176, 177, 178, 179, 180, 181, 182, 183, 184, 185, 186, 187, 188, 189, 190, 191, 192, 193, 194, 195, 196, 197, 198, 199, 200, 201, 202, 203, 204, 205, 206, 207, 208, 209, 210, 211, 212, 213, 214, 215, 216, 217, 218, 219, 220, 221, 222, 223, 224, 225, 226, 227, 228, 229, 230, 231, 232, 233, 234, 235, 236, 237, 238, 239, 240, 241, 242, 243, 244, 245, 246, 247, 248, 249, 250, 251, 252, 253, 254, 255, 256, 257, 258, 259, 260, 261, 262, 263, 264, 265, 266, 267, 268, 269, 270, 271, 272, 273, 274, 275, 276, 277, 278, 279, 280, 281, 282, 283, 284, 285, 286, 287, 288, 289, 290] (by decide +kernel) (by decide +kernel)) (goodIn_sub (fun _ h => List.mem_cons_of_mem _ (List.mem_append_left _ (List.mem_append_right _ h))) (by decide +kernel))) (goodIn_sub (fun _ h => List.mem_cons_of_mem _ (List.mem_append_right _ h)) (by decide +kernel))) (goodIn_sub (fun _ h => List.mem_cons_of_mem _ (List.mem_append_left _ (List.mem_append_left _ (List.mem_append_right _ h)))) (by decide +kernel))
set_option maxRecDepth 20000 in
theorem gL_writeRow_X9_writeRow : GoodIn wsL_writeRow (wsV RL 163 RX9 yX9_writeRow wsX9_writeRow) := goodIn_app (goodIn_of _ (by decide +kernel)) ggL_writeRow_X9_writeRow
theorem dL_writeRow_0 : decode cL_writeRow 0 = .ok (.aload_n 2, 1) := by decide +kernel
theorem dL_writeRow_1 : decode cL_writeRow 1 = .ok (.iconst 0, 1) := by decide +kernel
theorem dL_writeRow_2 : decode cL_writeRow 2 = .ok (.aload_n 0, 1) := by decide +kernel
theorem dL_writeRow_3 : decode cL_writeRow 3 = .ok (.iload_n 1, 1) := by decide +kernel
theorem dL_writeRow_4 : decode cL_writeRow 4 = .ok (.invokevirtual 163, 3) := by decide +kernel
theorem dL_writeRow_7 : decode cL_writeRow 7 = .ok (.i2l, 1) := by decide +kernel
theorem dL_writeRow_8 : decode cL_writeRow 8 = .ok (.lastore, 1) := by decide +kernel
theorem dL_writeRow_9 : decode cL_writeRow 9 = .ok (.goto 9, 3) := by decide +kernel
theorem dL_writeRow_12 : decode cL_writeRow 12 = .ok (.astore_n 3, 1) := by decide +kernel
theorem dL_writeRow_13 : decode cL_writeRow 13 = .ok (.iconst 1, 1) := by decide +kernel
theorem dL_writeRow_14 : decode cL_writeRow 14 = .ok (.ireturn, 1) := by decide +kernel
theorem dL_writeRow_15 : decode cL_writeRow 15 = .ok (.astore_n 3, 1) := by decide +kernel
theorem dL_writeRow_16 : decode cL_writeRow 16 = .ok (.iconst 2, 1) := by decide +kernel
theorem dL_writeRow_17 : decode cL_writeRow 17 = .ok (.ireturn, 1) := by decide +kernel
theorem dL_writeRow_18 : decode cL_writeRow 18 = .ok (.iconst 0, 1) := by decide +kernel
theorem dL_writeRow_19 : decode cL_writeRow 19 = .ok (.ireturn, 1) := by decide +kernel
set_option maxRecDepth 20000 in
theorem ggL_writeRecords_X9_writeRecords : GoodIn wsL_writeRecords wsX9_writeRecords := goodIn_ca (goodIn_ca (goodIn_r _ [6, 7, 8, 9, 10, 11, 12, 13, 14, 15, 5, 16, 17, 18, 19, 20, 21, 22, 23, 24, 25, 26, 27, 28, 29, 30, 31, 32, 33, 34, 35, 36, 37, 38, 39, 40, 41, 42, 43, 44, 45, 46, 47, 48, 49, 50, 51, 52, 53, 54, 55, 56, 57, 58, 59, 60, 61, 62, 63, 64, 65, 66, 67, 68, 69, 70, 71, 72, 73, 74, 75, 76, 77, 78, 79, 80, 81, 82, 83, 84, 85, 86, 87, 88, 89, 90, 91, 92, 93, 94, 95, 96, 97, 98, 99, 100, 101, 102, 103, 104, 105, 106, 107, 108, 109, 110, 111, 112, 113, 114, 115, 116, 117, 118, 119, 120, 121, 122, 123, 124, 125, 126, 127, 128, 129, 130, 131, 132, 133, 134, 135, 136, 137, 138, 139, 140, 141, 142, 143, 144, 145, 146, 147, 148, 149, 150, 151, 152, 153, 154, 155, 156, 157, 158, 159, 160, 161, 162, 163, 164, 165, 166, 167, 168, 169, 170, 171, 172, 173, 174, 175, 176, 177, 178, 179, 180, 181, 182, 183, 184, 185, 186, 187, 188, 189, 190, 191, 192, 193, 194, 195, 196, 197, 198, 199, 200, 201, 202, 203, 204, 205, 206, 207, 208, 209, 210, 211, 212, 213, 214, 215, 216, 217, 218, 219, 220, 221, 222, 223, 224, 225, 226, 227, 228, 229, 230, 231, 232, 233, 234, 235, 236, 237, 238, 239, 240, 241, 242, 243, 244, 245, 246, 247, 248, 249, 250, 251, 252] (by decide +kernel) (by decide +kernel)) (goodIn_sub (fun _ h => List.mem_cons_of_mem _ (List.mem_append_right _ h)) (by decide +kernel))) (goodIn_sub (fun _ h => List.mem_cons_of_mem _ (List.mem_append_left _ (List.mem_append_right _ h))) (by decide +kernel))
set_option maxRecDepth 20000 in
theorem gL_writeRecords_X9_writeRecords : GoodIn wsL_writeRecords (wsV RL 166 RX9 yX9_writeRecords wsX9_writeRecords) := goodIn_app (goodIn_of _ (by decide +kernel)) ggL_writeRecords_X9_writeRecords
theorem dL_writeRecords_0 : decode cL_writeRecords 0 = .ok (.aload_n 1, 1) := by decide +kernel
theorem dL_writeRecords_1 : decode cL_writeRecords 1 = .ok (.iconst 0, 1) := by decide +kernel
theorem dL_writeRecords_2 : decode cL_writeRecords 2 = .ok (.aload_n 0, 1) := by decide +kernel
theorem dL_writeRecords_3 : decode cL_writeRecords 3 = .ok (.invokevirtual 166, 3) := by decide +kernel
theorem dL_writeRecords_6 : decode cL_writeRecords 6 = .ok (.i2l, 1) := by decide +kernel
theorem dL_writeRecords_7 : decode cL_writeRecords 7 = .ok (.lastore, 1) := by decide +kernel
theorem dL_writeRecords_8 : decode cL_writeRecords 8 = .ok (.goto 6, 3) := by decide +kernel
theorem dL_writeRecords_11 : decode cL_writeRecords 11 = .ok (.astore_n 2, 1) := by decide +kernel
theorem dL_writeRecords_12 : decode cL_writeRecords 12 = .ok (.iconst 1, 1) := by decide +kernel
theorem dL_writeRecords_13 : decode cL_writeRecords 13 = .ok (.ireturn, 1) := by decide +kernel
theorem dL_writeRecords_14 : decode cL_writeRecords 14 = .ok (.iconst 0, 1) := by decide +kernel
theorem dL_writeRecords_15 : decode cL_writeRecords 15 = .ok (.ireturn, 1) := by decide +kernel
set_option maxRecDepth 20000 in
theorem ggL_outputByte_X9_outputByte : GoodIn wsL_outputByte wsX9_outputByte := goodIn_ca (goodIn_r _ [6, 7, 8, 9, 10, 11, 12, 13, 14, 15, 16, 17, 18, 19, 20, 21, 22, 23, 24, 25, 26, 27, 28, 29, 30, 31, 32, 33, 34, 35, 36, 37, 38, 39, 40, 41, 42, 43, 44, 45, 46, 47, 48, 49, 50, 51, 52, 53, 54, 55, 56, 57, 58, 59, 60, 61, 62, 63, 64, 65, 66] (by decide +kernel) (by decide +kernel)) (goodIn_sub (fun _ h => List.mem_cons_of_mem _ (List.mem_append_right _ h)) (by decide +kernel))
set_option maxRecDepth 20000 in
theorem gL_outputByte_X9_outputByte : GoodIn wsL_outputByte (wsV RL 169 RX9 yX9_outputByte wsX9_outputByte) := goodIn_app (goodIn_of _ (by decide +kernel)) ggL_outputByte_X9_outputByte
theorem dL_outputByte_0 : decode cL_outputByte 0 = .ok (.aload_n 2, 1) := by decide +kernel
theorem dL_outputByte_1 : decode cL_outputByte 1 = .ok (.iconst 0, 1) := by decide +kernel
theorem dL_outputByte_2 : decode cL_outputByte 2 = .ok (.aload_n 0, 1) := by decide +kernel
theorem dL_outputByte_3 : decode cL_outputByte 3 = .ok (.iload_n 1, 1) := by decide +kernel
theorem dL_outputByte_4 : decode cL_outputByte 4 = .ok (.invokevirtual 169, 3) := by decide +kernel
theorem dL_outputByte_7 : decode cL_outputByte 7 = .ok (.i2l, 1) := by decide +kernel
theorem dL_outputByte_8 : decode cL_outputByte 8 = .ok (.lastore, 1) := by decide +kernel
theorem dL_outputByte_9 : decode cL_outputByte 9 = .ok (.goto 6, 3) := by decide +kernel
theorem dL_outputByte_12 : decode cL_outputByte 12 = .ok (.astore_n 3, 1) := by decide +kernel
theorem dL_outputByte_13 : decode cL_outputByte 13 = .ok (.iconst 1, 1) := by decide +kernel
theorem dL_outputByte_14 : decode cL_outputByte 14 = .ok (.ireturn, 1) := by decide +kernel
theorem dL_outputByte_15 : decode cL_outputByte 15 = .ok (.iconst 0, 1) := by decide +kernel
theorem dL_outputByte_16 : decode cL_outputByte 16 = .ok (.ireturn, 1) := by decide +kernel
set_option maxRecDepth 20000 in
theorem ggL_advance_X9_advance : GoodIn wsL_advance wsX9_advance := goodIn_ca (goodIn_ca (goodIn_ca (goodIn_r _ [6, 7, 8, 9, 10, 11, 12, 13, 14, 15, 5, 16, 17, 18, 19, 20, 21, 22, 23, 24, 25, 26, 27, 28, 29, 30, 31, 32, 33, 34, 35, 36, 37, 38, 39, 40, 41, 42, 43, 44, 45, 46, 47, 48, 49, 50, 51, 52, 53, 54, 55, 56, 57, 58, 59, 60, 61, 62, 63, 64, 65, 66, 67, 68, 69, 70, 71, 72, 73, 74, 75, 76, 77, 78, 79, 80, 81, 82, 83, 84, 85, 86, 87, 88, 89, 90, 91, 92, 93, 94, 95, 96, 97, 98, 99, 100, 101, 102, 103, 104, 105, 106, 107, 108, 109, 110, 111, 112, 113, 114, 115, 116, 117, 118, 119, 120, 121, 122, 123, 124, 125, 126, 127, 128, 129, 130, 131, 132, 133, 134, 135, 136, 137, 138, 139, 140, 141, 142, 143, 144, 145, 146, 147, 148, 149, 150, 151, 152, 153, 154, 155, 156, 157, 158, 159, 160, 161, 162, 163, 164, 165, 166, 167, 168, 169, 170, 171, 172, 173, 174, 175, 176, 177, 178, 179, 180, 181, 182, 183, 184, 185, 186, 187, 188, 189, 190, 191, 192, 193, 194, 195, 196, 197, 198, 199, 200, 201, 202, 203, 204, 205, 206, 207, 208, 209, 210, 211, 212, 213, 214, 215, 216, 217, 218, 219, 220, 221, 222, 223, 224, 225, 226, 227, 228, 229, 230, 231, 232, 233, 234, 235, 236, 237, 238, 239, 240, 241, 242, 243, 244, 245, 246, 247, 248, 249, 250, 251, 252, 253, 254, 255, 256, 257, 258, 259, 260, 261, 262, 263, 264, 265, 266, 267, 268, 269, 270, 271, 272, 273, 274, 275, 276, 277, 278, 279, 280, 281, 282, 283, 284, 285, 286, 287, 288, 289, 290, 291, 292, 293, 294, 295, 296, 297, 298, 299, 300, 301, 302, 303, 304, 305, 306, 307, 308, 309, 310, 311, 312] (by decide +kernel) (by decide +kernel)) (goodIn_sub (fun _ h => List.mem_cons_of_mem _ (List.mem_append_left _ (List.mem_append_right _ h))) (by decide +kernel))) (goodIn_sub (fun _ h => List.mem_cons_of_mem _ (List.mem_append_right _ h)) (by decide +kernel))) (goodIn_sub (fun _ h => List.mem_cons_of_mem _ (List.mem_append_left _ (List.mem_append_left _ (List.mem_append_right _ h)))) (by decide +kernel))
set_option maxRecDepth 20000 in
theorem gL_advance_X9_advance : GoodIn wsL_advance (wsV RL 172 RX9 yX9_advance wsX9_advance) := goodIn_app (goodIn_of _ (by decide +kernel)) ggL_advance_X9_advance
theorem dL_advance_0 : decode cL_advance 0 = .ok (.aload_n 2, 1) := by decide +kernel
theorem dL_advance_1 : decode cL_advance 1 = .ok (.iconst 0, 1) := by decide +kernel
theorem dL_advance_2 : decode cL_advance 2 = .ok (.aload_n 0, 1) := by decide +kernel
theorem dL_advance_3 : decode cL_advance 3 = .ok (.iload_n 1, 1) := by decide +kernel
theorem dL_advance_4 : decode cL_advance 4 = .ok (.invokevirtual 172, 3) := by decide +kernel
theorem dL_advance_7 : decode cL_advance 7 = .ok (.i2l, 1) := by decide +kernel
theorem dL_advance_8 : decode cL_advance 8 = .ok (.lastore, 1) := by decide +kernel
theorem dL_advance_9 : decode cL_advance 9 = .ok (.goto 9, 3) := by decide +kernel
theorem dL_advance_12 : decode cL_advance 12 = .ok (.astore_n 3, 1) := by decide +kernel
theorem dL_advance_13 : decode cL_advance 13 = .ok (.iconst 1, 1) := by decide +kernel
theorem dL_advance_14 : decode cL_advance 14 = .ok (.ireturn, 1) := by decide +kernel
theorem dL_advance_15 : decode cL_advance 15 = .ok (.astore_n 3, 1) := by decide +kernel
theorem dL_advance_16 : decode cL_advance 16 = .ok (.iconst 2, 1) := by decide +kernel
theorem dL_advance_17 : decode cL_advance 17 = .ok (.ireturn, 1) := by decide +kernel
theorem dL_advance_18 : decode cL_advance 18 = .ok (.iconst 0, 1) := by decide +kernel
theorem dL_advance_19 : decode cL_advance 19 = .ok (.ireturn, 1) := by decide +kernel
set_option maxRecDepth 20000 in
theorem ggL_setPace_X9_setPace : GoodIn wsL_setPace wsX9_setPace := goodIn_ca (goodIn_ca (goodIn_r _ [6, 7, 8, 9, 10, 11, 12, 5, 13, 14, 15, 16, 17, 18, 19, 20, 21, 22, 23, 24, 25, 26, 27, 28, 29, 30, 31, 32, 33, 34, 35, 36, 37, 38, 39, 40, 41, 42, 43, 44, 45, 46, 47, 48, 49, 50, 51, 52, 53, 54, 55, 56, 57, 58, 59, 60, 61, 62, 63, 64, 65, 66, 67, 68, 69, 70, 71, 72, 73, 74, 75, 76, 77, 78, 79, 80, 81, 82, 83, 84, 85, 86, 87, 88, 89, 90, 91, 92, 93, 94, 95, 96, 97, 98, 99, 100, 101, 102, 103, 104, 105, 106, 107, 108, 109, 110, 111, 112, 113, 114, 115, 116, 117, 118, 119, 120, 121, 122, 123, 124, 125, 126, 127, 128, 129, 130, 131, 132, 133, 134, 135, 136, 137, 138, 139, 140, 141, 142, 143, 144, 145, 146, 147, 148, 149, 150, 151, 152, 153, 154, 155] (by decide +kernel) (by decide +kernel)) (goodIn_sub (fun _ h => List.mem_cons_of_mem _ (List.mem_append_left _ (List.mem_append_right _ h))) (by decide +kernel))) (goodIn_sub (fun _ h => List.mem_cons_of_mem _ (List.mem_append_right _ h)) (by decide +kernel))
set_option maxRecDepth 20000 in
theorem gL_setPace_X9_setPace : GoodIn wsL_setPace (wsV RL 175 RX9 yX9_setPace wsX9_setPace) := goodIn_app (goodIn_of _ (by decide +kernel)) ggL_setPace_X9_setPace
theorem dL_setPace_0 : decode cL_setPace 0 = .ok (.aload_n 2, 1) := by decide +kernel
theorem dL_setPace_1 : decode cL_setPace 1 = .ok (.iconst 0, 1) := by decide +kernel
theorem dL_setPace_2 : decode cL_setPace 2 = .ok (.aload_n 0, 1) := by decide +kernel
theorem dL_setPace_3 : decode cL_setPace 3 = .ok (.iload_n 1, 1) := by decide +kernel
theorem dL_setPace_4 : decode cL_setPace 4 = .ok (.invokevirtual 175, 3) := by decide +kernel
theorem dL_setPace_7 : decode cL_setPace 7 = .ok (.i2l, 1) := by decide +kernel
theorem dL_setPace_8 : decode cL_setPace 8 = .ok (.lastore, 1) := by decide +kernel
theorem dL_setPace_9 : decode cL_setPace 9 = .ok (.goto 9, 3) := by decide +kernel
theorem dL_setPace_12 : decode cL_setPace 12 = .ok (.astore_n 3, 1) := by decide +kernel
theorem dL_setPace_13 : decode cL_setPace 13 = .ok (.iconst 1, 1) := by decide +kernel
theorem dL_setPace_14 : decode cL_setPace 14 = .ok (.ireturn, 1) := by decide +kernel
theorem dL_setPace_15 : decode cL_setPace 15 = .ok (.astore_n 3, 1) := by decide +kernel
theorem dL_setPace_16 : decode cL_setPace 16 = .ok (.iconst 2, 1) := by decide +kernel
theorem dL_setPace_17 : decode cL_setPace 17 = .ok (.ireturn, 1) := by decide +kernel
theorem dL_setPace_18 : decode cL_setPace 18 = .ok (.iconst 0, 1) := by decide +kernel
theorem dL_setPace_19 : decode cL_setPace 19 = .ok (.ireturn, 1) := by decide +kernel
set_option maxRecDepth 20000 in
theorem ggL_setCurtain_X9_setCurtain : GoodIn wsL_setCurtain wsX9_setCurtain := goodIn_ca (goodIn_ca (goodIn_ca (goodIn_r _ [6, 7, 8, 9, 10, 11, 12, 5, 13, 14, 15, 16, 17, 18, 19, 20, 21, 22, 23, 24, 25, 26, 27, 28, 29, 30, 31, 32, 33, 34, 35, 36, 37, 38, 39, 40, 41, 42, 43, 44, 45, 46, 47, 48, 49, 50, 51, 52, 53, 54, 55, 56, 57, 58, 59, 60, 61, 62, 63, 64, 65, 66, 67, 68, 69, 70, 71, 72, 73, 74, 75, 76, 77, 78, 79, 80, 81, 82, 83, 84, 85, 86, 87, 88, 89, 90, 91, 92, 93, 94, 95, 96, 97, 98, 99, 100, 101, 102, 103, 104, 105, 106, 107, 108, 109, 110, 111, 112, 113, 114, 115, 116, 117, 118, 119, 120, 121, 122, 123, 124, 125, 126, 127, 128, 129, 130, 131, 132, 133, 134, 135, 136, 137, 138, 139, 140, 141, 142, 143, 144, 145, 146, 147, 148, 149, 150, 151, 152, 153, 154, 155, 156, 157, 158, 159, 160, 161, 162, 163] (by decide +kernel) (by decide +kernel)) (goodIn_sub (fun _ h => List.mem_cons_of_mem _ (List.mem_append_left _ (List.mem_append_right _ h))) (by decide +kernel))) (goodIn_sub (fun _ h => List.mem_cons_of_mem _ (List.mem_append_right _ h)) (by decide +kernel))) (goodIn_sub (fun _ h => List.mem_cons_of_mem _ (List.mem_append_left _ (List.mem_append_left _ (List.mem_append_right _ h)))) (by decide +kernel))
set_option maxRecDepth 20000 in
theorem gL_setCurtain_X9_setCurtain : GoodIn wsL_setCurtain (wsV RL 178 RX9 yX9_setCurtain wsX9_setCurtain) := goodIn_app (goodIn_of _ (by decide +kernel)) ggL_setCurtain_X9_setCurtain
theorem dL_setCurtain_0 : decode cL_setCurtain 0 = .ok (.aload_n 3, 1) := by decide +kernel
theorem dL_setCurtain_1 : decode cL_setCurtain 1 = .ok (.iconst 0, 1) := by decide +kernel
theorem dL_setCurtain_2 : decode cL_setCurtain 2 = .ok (.aload_n 0, 1) := by decide +kernel
theorem dL_setCurtain_3 : decode cL_setCurtain 3 = .ok (.iload_n 1, 1) := by decide +kernel
theorem dL_setCurtain_4 : decode cL_setCurtain 4 = .ok (.iload_n 2, 1) := by decide +kernel
theorem dL_setCurtain_5 : decode cL_setCurtain 5 = .ok (.invokevirtual 178, 3) := by decide +kernel
theorem dL_setCurtain_8 : decode cL_setCurtain 8 = .ok (.ifCond .eq 7, 3) := by decide +kernel
theorem dL_setCurtain_11 : decode cL_setCurtain 11 = .ok (.lconst 1, 1) := by decide +kernel
theorem dL_setCurtain_12 : decode cL_setCurtain 12 = .ok (.goto 4, 3) := by decide +kernel
theorem dL_setCurtain_15 : decode cL_setCurtain 15 = .ok (.lconst 0, 1) := by decide +kernel
theorem dL_setCurtain_16 : decode cL_setCurtain 16 = .ok (.lastore, 1) := by decide +kernel
theorem dL_setCurtain_17 : decode cL_setCurtain 17 = .ok (.goto 11, 3) := by decide +kernel
theorem dL_setCurtain_20 : decode cL_setCurtain 20 = .ok (.astore 4, 2) := by decide +kernel
theorem dL_setCurtain_22 : decode cL_setCurtain 22 = .ok (.iconst 1, 1) := by decide +kernel
theorem dL_setCurtain_23 : decode cL_setCurtain 23 = .ok (.ireturn, 1) := by decide +kernel
theorem dL_setCurtain_24 : decode cL_setCurtain 24 = .ok (.astore 4, 2) := by decide +kernel
theorem dL_setCurtain_26 : decode cL_setCurtain 26 = .ok (.iconst 2, 1) := by decide +kernel
theorem dL_setCurtain_27 : decode cL_setCurtain 27 = .ok (.ireturn, 1) := by decide +kernel
theorem dL_setCurtain_28 : decode cL_setCurtain 28 = .ok (.iconst 0, 1) := by decide +kernel
theorem dL_setCurtain_29 : decode cL_setCurtain 29 = .ok (.ireturn, 1) := by decide +kernel
set_option maxRecDepth 20000 in
theorem ggL_placeBowl_X9_placeBowl : GoodIn wsL_placeBowl wsX9_placeBowl := goodIn_ca (goodIn_ca (goodIn_ca (goodIn_ca (goodIn_r _ [6, 7, 8, 9, 10, 11, 12, 13, 14, 5, 15, 16, 17, 18, 19, 20, 21, 22, 23, 24, 25, 26, 27, 28, 29, 30, 31, 32, 33, 34, 35, 36, 37, 38, 39, 40, 41, 42, 43, 44, 45, 46, 47, 48, 49, 50, 51, 52, 53, 54, 55, 56, 57, 58, 59, 60, 61, 62, 63, 64, 65, 66, 67, 68, 69, 70, 71, 72, 73, 74, 75, 76, 77, 78, 79, 80, 81, 82, 83, 84, 85, 86, 87, 88, 89, 90, 91, 92, 93, 94, 95, 96, 97, 98, 99, 100, 101, 102, 103, 104, 105, 106, 107, 108, 109, 110, 111, 112, 113, 114, 115, 116, 117, 118, 119, 120, 121, 122, 123, 124, 125, 126, 127, 128, 129, 130, 131, 132, 133, 134, 135, 136, 137, 138, 139, 140, 141, 142, 143, 144, 145, 146, 147, 148, 149, 150, 151, 152, 153, 154, 155, 156, 157, 158, 159, 160, 161, 162, 163, 164, 165, 166, 167, 168, 169, 170, 171, 172, 173, 174, 175] (by decide +kernel) (by decide +kernel)) (goodIn_sub (fun _ h => List.mem_cons_of_mem _ (List.mem_append_left _ (List.mem_append_left _ (List.mem_append_right _ h)))) (by decide +kernel))) (goodIn_sub (fun _ h => List.mem_cons_of_mem _ (List.mem_append_left _ (List.mem_append_right _ h))) (by decide +kernel))) (goodIn_sub (fun _ h => List.mem_cons_of_mem _ (List.mem_append_right _ h)) (by decide +kernel))) (goodIn_sub (fun _ h => List.mem_cons_of_mem _ (List.mem_append_left _ (List.mem_append_left _ (List.mem_append_left _ (List.mem_append_right _ h))))) (by decide +kernel))
set_option maxRecDepth 20000 in
theorem gL_placeBowl_X9_placeBowl : GoodIn wsL_placeBowl (wsV RL 182 RX9 yX9_placeBowl wsX9_placeBowl) := goodIn_app (goodIn_of _ (by decide +kernel)) ggL_placeBowl_X9_placeBowl
theorem dL_placeBowl_0 : decode cL_placeBowl 0 = .ok (.aload_n 2, 1) := by decide +kernel
theorem dL_placeBowl_1 : decode cL_placeBowl 1 = .ok (.iconst 0, 1) := by decide +kernel
theorem dL_placeBowl_2 : decode cL_placeBowl 2 = .ok (.aload_n 0, 1) := by decide +kernel
theorem dL_placeBowl_3 : decode cL_placeBowl 3 = .ok (.iload_n 1, 1) := by decide +kernel
theorem dL_placeBowl_4 : decode cL_placeBowl 4 = .ok (.invokevirtual 182, 3) := by decide +kernel
theorem dL_placeBowl_7 : decode cL_placeBowl 7 = .ok (.i2l, 1) := by decide +kernel
theorem dL_placeBowl_8 : decode cL_placeBowl 8 = .ok (.lastore, 1) := by decide +kernel
theorem dL_placeBowl_9 : decode cL_placeBowl 9 = .ok (.goto 12, 3) := by decide +kernel
theorem dL_placeBowl_12 : decode cL_placeBowl 12 = .ok (.astore_n 3, 1) := by decide +kernel
theorem dL_placeBowl_13 : decode cL_placeBowl 13 = .ok (.iconst 1, 1) := by decide +kernel
theorem dL_placeBowl_14 : decode cL_placeBowl 14 = .ok (.ireturn, 1) := by decide +kernel
theorem dL_placeBowl_15 : decode cL_placeBowl 15 = .ok (.astore_n 3, 1) := by decide +kernel
theorem dL_placeBowl_16 : decode cL_placeBowl 16 = .ok (.iconst 2, 1) := by decide +kernel
theorem dL_placeBowl_17 : decode cL_placeBowl 17 = .ok (.ireturn, 1) := by decide +kernel
theorem dL_placeBowl_18 : decode cL_placeBowl 18 = .ok (.astore_n 3, 1) := by decide +kernel
theorem dL_placeBowl_19 : decode cL_placeBowl 19 = .ok (.iconst 3, 1) := by decide +kernel
theorem dL_placeBowl_20 : decode cL_placeBowl 20 = .ok (.ireturn, 1) := by decide +kernel
theorem dL_placeBowl_21 : decode cL_placeBowl 21 = .ok (.iconst 0, 1) := by decide +kernel
theorem dL_placeBowl_22 : decode cL_placeBowl 22 = .ok (.ireturn, 1) := by decide +kernel
set_option maxRecDepth 20000 in
theorem ggL_mop_X9_mop : GoodIn wsL_mop wsX9_mop := goodIn_ca (goodIn_ca (goodIn_ca (goodIn_ca (goodIn_r _ [6, 7, 8, 9, 10, 11, 12, 13, 14, 5, 15, 16, 17, 18, 19, 20, 21, 22, 23, 24, 25, 26, 27, 28, 29, 30, 31, 32, 33, 34, 35, 36, 37, 38, 39, 40, 41, 42, 43, 44, 45, 46, 47, 48, 49, 50, 51, 52, 53, 54, 55, 56, 57, 58, 59, 60, 61, 62, 63, 64, 65, 66, 67, 68, 69, 70, 71, 72, 73, 74, 75, 76, 77, 78, 79, 80, 81, 82, 83, 84, 85, 86, 87, 88, 89, 90, 91, 92, 93, 94, 95, 96, 97, 98, 99, 100, 101, 102, 103, 104, 105, 106, 107, 108, 109, 110, 111, 112, 113, 114, 115, 116, 117, 118, 119, 120, 121, 122, 123, 124, 125, 126, 127, 128, 129, 130, 131, 132, 133, 134, 135, 136, 137, 138, 139, 140, 141, 142, 143, 144, 145, 146, 147, 148, 149, 150, 151, 152, 153, 154, 155, 156, 157, 158, 159, 160, 161, 162, 163, 164, 165, 166, 167, 168, 169] (by decide +kernel) (by decide +kernel)) (goodIn_sub (fun _ h => List.mem_cons_of_mem _ (List.mem_append_left _ (List.mem_append_left _ (List.mem_append_right _ h)))) (by decide +kernel))) (goodIn_sub (fun _ h => List.mem_cons_of_mem _ (List.mem_append_left _ (List.mem_append_right _ h))) (by decide +kernel))) (goodIn_sub (fun _ h => List.mem_cons_of_mem _ (List.mem_append_right _ h)) (by decide +kernel))) (goodIn_sub (fun _ h => List.mem_cons_of_mem _ (List.mem_append_left _ (List.mem_append_left _ (List.mem_append_left _ (List.mem_append_right _ h))))) (by decide +kernel))
set_option maxRecDepth 20000 in
theorem gL_mop_X9_mop : GoodIn wsL_mop (wsV RL 185 RX9 yX9_mop wsX9_mop) := goodIn_app (goodIn_of _ (by decide +kernel)) ggL_mop_X9_mop
theorem dL_mop_0 : decode cL_mop 0 = .ok (.aload_n 2, 1) := by decide +kernel
theorem dL_mop_1 : decode cL_mop 1 = .ok (.iconst 0, 1) := by decide +kernel
theorem dL_mop_2 : decode cL_mop 2 = .ok (.aload_n 0, 1) := by decide +kernel
theorem dL_mop_3 : decode cL_mop 3 = .ok (.iload_n 1, 1) := by decide +kernel
theorem dL_mop_4 : decode cL_mop 4 = .ok (.invokevirtual 185, 3) := by decide +kernel
theorem dL_mop_7 : decode cL_mop 7 = .ok (.i2l, 1) := by decide +kernel
theorem dL_mop_8 : decode cL_mop 8 = .ok (.lastore, 1) := by decide +kernel
theorem dL_mop_9 : decode cL_mop 9 = .ok (.goto 12, 3) := by decide +kernel
theorem dL_mop_12 : decode cL_mop 12 = .ok (.astore_n 3, 1) := by decide +kernel
theorem dL_mop_13 : decode cL_mop 13 = .ok (.iconst 1, 1) := by decide +kernel
theorem dL_mop_14 : decode cL_mop 14 = .ok (.ireturn, 1) := by decide +kernel
theorem dL_mop_15 : decode cL_mop 15 = .ok (.astore_n 3, 1) := by decide +kernel
theorem dL_mop_16 : decode cL_mop 16 = .ok (.iconst 2, 1) := by decide +kernel
theorem dL_mop_17 : decode cL_mop 17 = .ok (.ireturn, 1) := by decide +kernel
theorem dL_mop_18 : decode cL_mop 18 = .ok (.astore_n 3, 1) := by decide +kernel
theorem dL_mop_19 : decode cL_mop 19 = .ok (.iconst 3, 1) := by decide +kernel
theorem dL_mop_20 : decode cL_mop 20 = .ok (.ireturn, 1) := by decide +kernel
theorem dL_mop_21 : decode cL_mop 21 = .ok (.iconst 0, 1) := by decide +kernel
theorem dL_mop_22 : decode cL_mop 22 = .ok (.ireturn, 1) := by decide +kernel
set_option maxRecDepth 20000 in
theorem ggL_turnWalker_X9_turnWalker : GoodIn wsL_turnWalker wsX9_turnWalker := goodIn_ca (goodIn_r _ [6, 7, 8, 9, 10, 11, 12, 13, 5, 14, 15, 16, 17, 18, 19, 20, 21, 22, 23, 24, 25, 26, 27, 28, 29, 30, 31, 32, 33, 34, 35, 36, 37, 38, 39, 40, 41, 42, 43, 44, 45, 46, 47, 48, 49, 50, 51, 52, 53, 54, 55, 56, 57, 58, 59, 60, 61, 62, 63, 64, 65, 66, 67, 68, 69, 70, 71, 72, 73, 74, 75, 76, 77, 78, 79, 80, 81, 82, 83, 84, 85, 86, 87, 88, 89, 90, 91, 92, 93, 94, 95, 96, 97, 98, 99, 100, 101, 102, 103, 104, 105, 106, 107, 108, 109, 110, 111, 112, 113, 114, 115, 116, 117, 118, 119, 120, 121, 122, 123, 124, 125, 126, 127, 128, 129, 130, 131, 132, 133, 134, 135, 136, 137, 138, 139, 140, 141, 142, 143, 144, 145, 146, 147, 148, 149, 150] (by decide +kernel) (by decide +kernel)) (goodIn_sub (fun _ h => List.mem_cons_of_mem _ (List.mem_append_right _ h)) (by decide +kernel))
set_option maxRecDepth 20000 in
theorem gL_turnWalker_X9_turnWalker : GoodIn wsL_turnWalker (wsV RL 188 RX9 yX9_turnWalker wsX9_turnWalker) := goodIn_app (goodIn_of _ (by decide +kernel)) ggL_turnWalker_X9_turnWalker
theorem dL_turnWalker_0 : decode cL_turnWalker 0 = .ok (.aload_n 1, 1) := by decide +kernel
theorem dL_turnWalker_1 : decode cL_turnWalker 1 = .ok (.iconst 0, 1) := by decide +kernel
theorem dL_turnWalker_2 : decode cL_turnWalker 2 = .ok (.aload_n 0, 1) := by decide +kernel
theorem dL_turnWalker_3 : decode cL_turnWalker 3 = .ok (.invokevirtual 188, 3) := by decide +kernel
theorem dL_turnWalker_6 : decode cL_turnWalker 6 = .ok (.ifCond .eq 7, 3) := by decide +kernel
theorem dL_turnWalker_9 : decode cL_turnWalker 9 = .ok (.lconst 1, 1) := by decide +kernel
theorem dL_turnWalker_10 : decode cL_turnWalker 10 = .ok (.goto 4, 3) := by decide +kernel
theorem dL_turnWalker_13 : decode cL_turnWalker 13 = .ok (.lconst 0, 1) := by decide +kernel
theorem dL_turnWalker_14 : decode cL_turnWalker 14 = .ok (.lastore, 1) := by decide +kernel
theorem dL_turnWalker_15 : decode cL_turnWalker 15 = .ok (.goto 6, 3) := by decide +kernel
theorem dL_turnWalker_18 : decode cL_turnWalker 18 = .ok (.astore_n 2, 1) := by decide +kernel
theorem dL_turnWalker_19 : decode cL_turnWalker 19 = .ok (.iconst 1, 1) := by decide +kernel
theorem dL_turnWalker_20 : decode cL_turnWalker 20 = .ok (.ireturn, 1) := by decide +kernel
theorem dL_turnWalker_21 : decode cL_turnWalker 21 = .ok (.iconst 0, 1) := by decide +kernel
theorem dL_turnWalker_22 : decode cL_turnWalker 22 = .ok (.ireturn, 1) := by decide +kernel
set_option maxRecDepth 20000 in
theorem ggL_undo_X9_undo : GoodIn wsL_undo wsX9_undo := goodIn_ca (goodIn_r _ [6, 7, 8, 9, 10, 11, 12, 13, 14, 15, 16, 17, 18, 19, 20, 21, 22, 23, 24, 25, 26, 27, 28, 29, 30, 31, 32, 33, 34, 35, 36, 37, 38, 39, 40, 41, 42, 43, 44, 45, 46, 47, 48, 49, 50, 51, 52, 53, 54, 55, 56, 57, 58, 59, 60, 5, 61, 62, 63, 64, 65, 66, 67, 68, 69, 70, 71, 72, 73, 74, 75, 76, 77, 78, 79, 80, 81, 82, 83, 84, 85, 86, 87, 88, 89, 90, 91, 92, 93, 94, 95, 96, 97, 98, 99, 100, 101, 102, 103, 104, 105, 106, 107, 108, 109, 110, 111, 112, 113, 114, 115, 116, 117, 118, 119, 120, 121, 122, 123, 124, 125, 126, 127, 128, 129, 130, 131, 132, 133, 134, 135, 136, 137, 138, 139, 140, 141, 142, 143] (by decide +kernel) (by decide +kernel)) (goodIn_sub (fun _ h => List.mem_cons_of_mem _ (List.mem_append_right _ h)) (by decide +kernel))
set_option maxRecDepth 20000 in
theorem gL_undo_X9_undo : GoodIn wsL_undo (wsV RL 191 RX9 yX9_undo wsX9_undo) := goodIn_app (goodIn_of _ (by decide +kernel)) ggL_undo_X9_undo
theorem dL_undo_0 : decode cL_undo 0 = .ok (.aload_n 1, 1) := by decide +kernel
theorem dL_undo_1 : decode cL_undo 1 = .ok (.iconst 0, 1) := by decide +kernel
theorem dL_undo_2 : decode cL_undo 2 = .ok (.aload_n 0, 1) := by decide +kernel
theorem dL_undo_3 : decode cL_undo 3 = .ok (.invokevirtual 191, 3) := by decide +kernel
theorem dL_undo_6 : decode cL_undo 6 = .ok (.i2l, 1) := by decide +kernel
theorem dL_undo_7 : decode cL_undo 7 = .ok (.lastore, 1) := by decide +kernel
theorem dL_undo_8 : decode cL_undo 8 = .ok (.goto 6, 3) := by decide +kernel
theorem dL_undo_11 : decode cL_undo 11 = .ok (.astore_n 2, 1) := by decide +kernel
theorem dL_undo_12 : decode cL_undo 12 = .ok (.iconst 1, 1) := by decide +kernel
theorem dL_undo_13 : decode cL_undo 13 = .ok (.ireturn, 1) := by decide +kernel
theorem dL_undo_14 : decode cL_undo 14 = .ok (.iconst 0, 1) := by decide +kernel
theorem dL_undo_15 : decode cL_undo 15 = .ok (.ireturn, 1) := by decide +kernel
set_option maxRecDepth 20000 in
theorem ggL_saveState_X9_saveState : GoodIn wsL_saveState wsX9_saveState := goodIn_ca (goodIn_ca (goodIn_ca (goodIn_r _ [6, 7, 8, 9, 10, 11, 12, 5, 13, 14, 15, 16, 17, 18, 19, 20, 21, 22, 23, 24, 25, 26, 27, 28, 29, 30, 31, 32, 33, 34, 35, 36, 37, 38, 39, 40, 41, 42, 43, 44, 45, 46, 47, 48, 49, 50, 51, 52, 53, 54, 55, 56, 57, 58, 59, 60, 61, 62, 63, 64, 65, 66, 67, 68, 69, 70, 71, 72, 73, 74, 75, 76, 77, 78, 79, 80, 81, 82, 83, 84, 85, 86, 87, 88, 89, 90, 91, 92, 93, 94, 95, 96, 97, 98, 99, 100, 101, 102, 103, 104, 105, 106, 107, 108, 109, 110, 111, 112, 113, 114, 115, 116, 117, 118, 119, 120, 121, 122, 123, 124, 125, 126, 127, 128, 129, 130, 131, 132, 133, 134, 135, 136, 137, 138, 139, 140, 141, 142, 143, 144, 145, 146, 147, 148, 149, 150, 151, 152, 153, 154, 155] (by decide +kernel) (by decide +kernel)) (goodIn_sub (fun _ h => List.mem_cons_of_mem _ (List.mem_append_left _ (List.mem_append_right _ h))) (by decide +kernel))) (goodIn_sub (fun _ h => List.mem_cons_of_mem _ (List.mem_append_right _ h)) (by decide +kernel))) (goodIn_sub (fun _ h => List.mem_cons_of_mem _ (List.mem_append_left _ (List.mem_append_left _ (List.mem_append_right _ h)))) (by decide +kernel))
set_option maxRecDepth 20000 in
theorem gL_saveState_X9_saveState : GoodIn wsL_saveState (wsV RL 194 RX9 yX9_saveState wsX9_saveState) := goodIn_app (goodIn_of _ (by decide +kernel)) ggL_saveState_X9_saveState
theorem dL_saveState_0 : decode cL_saveState 0 = .ok (.aload_n 2, 1) := by decide +kernel
theorem dL_saveState_1 : decode cL_saveState 1 = .ok (.iconst 0, 1) := by decide +kernel
theorem dL_saveState_2 : decode cL_saveState 2 = .ok (.aload_n 0, 1) := by decide +kernel
theorem dL_saveState_3 : decode cL_saveState 3 = .ok (.iload_n 1, 1) := by decide +kernel
theorem dL_saveState_4 : decode cL_saveState 4 = .ok (.invokevirtual 194, 3) := by decide +kernel
theorem dL_saveState_7 : decode cL_saveState 7 = .ok (.i2l, 1) := by decide +kernel
theorem dL_saveState_8 : decode cL_saveState 8 = .ok (.lastore, 1) := by decide +kernel
theorem dL_saveState_9 : decode cL_saveState 9 = .ok (.goto 9, 3) := by decide +kernel
theorem dL_saveState_12 : decode cL_saveState 12 = .ok (.astore_n 3, 1) := by decide +kernel
theorem dL_saveState_13 : decode cL_saveState 13 = .ok (.iconst 1, 1) := by decide +kernel
theorem dL_saveState_14 : decode cL_saveState 14 = .ok (.ireturn, 1) := by decide +kernel
theorem dL_saveState_15 : decode cL_saveState 15 = .ok (.astore_n 3, 1) := by decide +kernel
theorem dL_saveState_16 : decode cL_saveState 16 = .ok (.iconst 2, 1) := by decide +kernel
theorem dL_saveState_17 : decode cL_saveState 17 = .ok (.ireturn, 1) := by decide +kernel
theorem dL_saveState_18 : decode cL_saveState 18 = .ok (.iconst 0, 1) := by decide +kernel
theorem dL_saveState_19 : decode cL_saveState 19 = .ok (.ireturn, 1) := by decide +kernel
set_option maxRecDepth 20000 in
theorem ggL_restoreState_X9_restoreState : GoodIn wsL_restoreState wsX9_restoreState := goodIn_ca (goodIn_ca (goodIn_ca (goodIn_r _ [6, 7, 8, 9, 10, 11, 12, 13, 14, 5, 15, 16, 17, 18, 19, 20, 21, 22, 23, 24, 25, 26, 27, 28, 29, 30, 31, 32, 33, 34, 35, 36, 37, 38, 39, 40, 41, 42, 43, 44, 45, 46, 47, 48, 49, 50, 51, 52, 53, 54, 55, 56, 57, 58, 59, 60, 61, 62, 63, 64, 65, 66, 67, 68, 69, 70, 71, 72, 73, 74, 75, 76, 77, 78, 79, 80, 81, 82, 83, 84, 85, 86, 87, 88, 89, 90, 91, 92, 93, 94, 95, 96, 97, 98, 99, 100, 101, 102, 103, 104, 105, 106, 107, 108, 109, 110, 111, 112, 113, 114, 115, 116, 117, 118, 119, 120, 121, 122, 123, 124, 125, 126, 127, 128, 129, 130, 131, 132, 133, 134, 135, 136, 137, 138, 139, 140, 141, 142, 143, 144, 145, 146, 147, 148, 149, 150, 151, 152, 153, 154, 155] (by decide +kernel) (by decide +kernel)) (goodIn_sub (fun _ h => List.mem_cons_of_mem _ (List.mem_append_left _ (List.mem_append_right _ h))) (by decide +kernel))) (goodIn_sub (fun _ h => List.mem_cons_of_mem _ (List.mem_append_right _ h)) (by decide +kernel))) (goodIn_sub (fun _ h => List.mem_cons_of_mem _ (List.mem_append_left _ (List.mem_append_left _ (List.mem_append_right _ h)))) (by decide +kernel))
set_option maxRecDepth 20000 in
theorem gL_restoreState_X9_restoreState : GoodIn wsL_restoreState (wsV RL 197 RX9 yX9_restoreState wsX9_restoreState) := goodIn_app (goodIn_of _ (by decide +kernel)) ggL_restoreState_X9_restoreState
theorem dL_restoreState_0 : decode cL_restoreState 0 = .ok (.aload_n 2, 1) := by decide +kernel
theorem dL_restoreState_1 : decode cL_restoreState 1 = .ok (.iconst 0, 1) := by decide +kernel
theorem dL_restoreState_2 : decode cL_restoreState 2 = .ok (.aload_n 0, 1) := by decide +kernel
theorem dL_restoreState_3 : decode cL_restoreState 3 = .ok (.iload_n 1, 1) := by decide +kernel
theorem dL_restoreState_4 : decode cL_restoreState 4 = .ok (.invokevirtual 197, 3) := by decide +kernel
theorem dL_restoreState_7 : decode cL_restoreState 7 = .ok (.i2l, 1) := by decide +kernel
theorem dL_restoreState_8 : decode cL_restoreState 8 = .ok (.lastore, 1) := by decide +kernel
theorem dL_restoreState_9 : decode cL_restoreState 9 = .ok (.goto 9, 3) := by decide +kernel
theorem dL_restoreState_12 : decode cL_restoreState 12 = .ok (.astore_n 3, 1) := by decide +kernel
theorem dL_restoreState_13 : decode cL_restoreState 13 = .ok (.iconst 1, 1) := by decide +kernel
theorem dL_restoreState_14 : decode cL_restoreState 14 = .ok (.ireturn, 1) := by decide +kernel
theorem dL_restoreState_15 : decode cL_restoreState 15 = .ok (.astore_n 3, 1) := by decide +kernel
theorem dL_restoreState_16 : decode cL_restoreState 16 = .ok (.iconst 2, 1) := by decide +kernel
theorem dL_restoreState_17 : decode cL_restoreState 17 = .ok (.ireturn, 1) := by decide +kernel
theorem dL_restoreState_18 : decode cL_restoreState 18 = .ok (.iconst 0, 1) := by decide +kernel
theorem dL_restoreState_19 : decode cL_restoreState 19 = .ok (.ireturn, 1) := by decide +kernel
set_option maxRecDepth 20000 in
theorem ggL_law_X9_init : GoodIn wsL_law wsX9_init := goodIn_r _ [10, 11, 12, 13, 14, 15, 16, 17, 18, 19, 20, 21, 22, 23, 24, 25, 26, 27, 28, 29, 30, 31, 32, 33, 34, 35, 36, 37, 38, 39, 40, 41, 42, 43, 44, 45, 46, 47, 48, 49, 50, 51, 52, 53, 54, 55, 56, 57, 58, 59, 60, 61, 62, 63, 64, 65, 66, 67, 68, 69, 70, 71, 72, 73, 74, 75, 76, 77, 78, 79, 80, 81, 82, 83, 84, 85, 86, 87, 88, 89, 90, 91, 92, 93, 94, 95, 96, 97, 98, 99, 100, 101, 102, 103, 104, 105, 106, 107, 108, 109, 110, 111, 112, 113, 114, 115, 116, 117, 2057, 2058, 2059, 2060, 2061, 2062, 2063, 2064, 2087, 2088, 2089, 2090, 2091, 2092, 2093, 2094, 2095, 2096, 2097, 2098, 2099, 2100, 2101, 2102, 2103, 2104, 2105, 2106, 2107, 2108, 2109, 2110, 2111, 2112, 2113, 2114, 2115, 2116, 2117, 2118, 2119, 2120, 2121, 2122, 2123, 2124, 2125, 2126, 2127, 2128, 2129, 2130, 2131, 2132, 2133, 2134, 2135, 2136, 2137, 2138, 2139, 2140, 2141, 2142, 2143, 2144, 2145, 2146, 2147, 2148, 2149, 2150] (by decide +kernel) (by decide +kernel)
set_option maxRecDepth 20000 in
theorem gL_law_X9_init : GoodIn wsL_law (wsX9_init) := ggL_law_X9_init
set_option maxRecDepth 20000 in
theorem ggL_law_X10_init : GoodIn wsL_law wsX10_init := goodIn_r _ [120, 121, 12, 13, 14, 122, 123, 124, 125, 126, 127, 44, 128, 129, 130, 2065, 2066, 2067, 2068, 2069, 2070, 2071, 2072, 2073, 2074, 2075, 2076, 2077, 2078, 2079, 2080, 2081, 2082, 2083, 2084, 2085, 2086] (by decide +kernel) (by decide +kernel)
set_option maxRecDepth 20000 in
theorem gL_law_X10_init : GoodIn wsL_law (wsX10_init) := ggL_law_X10_init
set_option maxRecDepth 20000 in
theorem ggL_law_X9_append : GoodIn wsL_law wsX9_append := goodIn_ca (goodIn_r _ [134, 33, 135, 136, 137, 2, 138, 15, 139, 140, 141, 2057, 2058, 2059, 2060, 2061, 2062, 2063, 2064] (by decide +kernel) (by decide +kernel)) (goodIn_sub (fun _ h => List.mem_append_left _ (List.mem_append_left _ (List.mem_append_left _ (List.mem_append_right _ h)))) (by decide +kernel))
set_option maxRecDepth 20000 in
theorem gL_law_X9_append : GoodIn wsL_law (wsV RL 204 RX9 yX9_append wsX9_append) := goodIn_app (goodIn_of _ (by decide +kernel)) ggL_law_X9_append
set_option maxRecDepth 20000 in
theorem ggL_law_X10_append : GoodIn wsL_law wsX10_append := goodIn_ca (goodIn_r _ [145, 146, 147, 148, 149, 150, 5, 151, 128, 2065, 2066, 2067, 2068, 2069, 2070, 2071, 2072, 2073, 2074, 2075, 2076, 2077, 2078, 2079, 2080, 2081, 2082, 2083, 2084, 2085, 2086] (by decide +kernel) (by decide +kernel)) (goodIn_sub (fun _ h => List.mem_append_left _ (List.mem_append_left _ (List.mem_append_left _ (List.mem_append_right _ h)))) (by decide +kernel))
set_option maxRecDepth 20000 in
theorem gL_law_X10_append : GoodIn wsL_law (wsV RL 208 RX10 yX10_append wsX10_append) := goodIn_app (goodIn_of _ (by decide +kernel)) ggL_law_X10_append
set_option maxRecDepth 20000 in
theorem ggL_law_L_parseSetup : GoodIn wsL_law wsL_parseSetup := goodIn_ca (goodIn_ca (goodIn_ca (goodIn_r _ [155, 156, 157, 158, 159, 2, 160, 161, 162, 163, 164, 33, 28, 15, 23, 24, 32, 34, 165, 166, 167, 27, 168, 97, 169, 170, 101, 171, 100, 172, 173, 174, 175, 176, 177, 178, 102, 179, 180, 181, 22, 182, 61, 65, 69, 70, 71, 72, 73, 74, 183, 184, 185, 186, 187, 188, 189, 190, 191, 60, 192, 78, 193, 194, 195, 196, 197, 198, 199, 200, 201, 202, 203, 204, 205, 206, 207, 208, 64, 209, 210, 211, 212, 213, 214, 215, 216, 217, 218, 219, 220, 221, 68, 222, 223, 224, 225, 226, 227, 96, 228, 229, 230, 231, 232, 233, 234, 235, 236, 237, 238, 239, 240, 241, 242, 243, 244, 245, 246, 247, 248, 249, 250, 251, 252, 253, 254, 255, 256, 257, 258, 259, 260, 261, 262, 263, 264, 265, 266, 267, 268, 269, 270, 271, 272, 273, 274, 275, 276, 277, 278, 279, 280, 281, 282, 283, 284, 285, 286, 49, 287, 288, 289, 290, 291, 292, 293, 294, 295, 296, 297, 298, 299, 300, 301, 302, 303, 304, 305, 306, 307, 107, 108, 109, 140, 141, 308, 309, 310, 311, 312, 313, 314, 315, 316, 317, 318, 319, 320, 321, 322, 323, 324, 325, 326, 327, 328, 329, 330, 331, 332, 333, 334, 335, 336, 337, 338, 339, 340, 341, 342, 343, 344, 345, 346, 347, 348, 349, 350, 351, 352, 353, 354, 355, 99, 98, 356, 357, 358, 359, 360, 361, 362, 363, 364, 365, 366, 367, 368, 369, 370, 371, 372, 373, 374, 375, 376, 377, 378, 379, 380, 381, 382, 79, 80, 383, 384, 385, 386, 387, 388, 389, 390, 391, 392, 393, 394, 395, 396, 397, 398, 399, 400, 401, 402, 403, 404, 405, 406, 407, 408, 409, 410, 411, 412, 413, 414, 415, 416, 417, 418, 419, 420, 421, 422, 423, 424, 425, 426, 427, 428, 429, 430, 431, 432, 433, 434, 435, 436, 437, 438, 439, 440, 441, 442, 443, 444, 445, 446, 447, 448, 449, 450, 451, 452, 453, 454, 455, 456, 457, 458, 459, 460, 461, 462, 463, 464, 465, 466, 467, 468, 469, 470, 471, 472, 473, 474, 475, 476, 477, 478, 479, 480, 481, 482, 483, 484, 485, 486, 487, 488, 489, 490, 491, 492, 493, 494, 495, 496, 497, 498, 499, 500, 501, 502, 503, 504, 505, 506, 507, 508, 509, 510, 511, 512, 513, 514, 515, 516, 517, 518, 519, 520, 521, 522, 523, 524, 525, 526, 527, 528, 529, 530, 531, 532, 533, 534, 535, 536, 537, 538, 539, 540, 541, 542, 543, 544, 545, 546, 547, 548, 549, 550, 551, 552, 553, 554, 555, 556, 557, 558, 559, 560, 561, 562, 563, 564, 565, 566, 567, 568, 569, 570, 571, 572, 573, 574, 575, 576, 577, 578, 579, 580, 581, 582, 583, 584, 585, 586, 587, 588, 589, 590, 591, 592, 593, 594, 595, 596, 597, 598, 599, 600, 601, 88, 89, 602, 603, 604, 605, 606, 607, 608, 609, 610, 611, 612, 613, 614, 615, 616, 617, 618, 619, 620, 621, 622, 623, 624, 625, 626, 627, 628, 629, 630, 631, 632, 633, 634, 635, 636, 637, 638, 639, 640, 641, 642, 643, 644, 645, 646, 647, 648, 649, 650, 651, 652, 653, 654, 655, 656, 657, 658, 81, 659, 660, 661, 662, 663, 664, 665, 666, 667, 668, 669, 670, 671, 672, 673, 674, 675, 676, 31, 677, 117, 678, 679, 680, 681, 682, 683, 684, 2057, 2058, 2059, 2060, 2061, 2062, 2063, 2064, 2105, 2106, 2107, 2108, 2109, 2110, 2111, 2112, 2113, 2114, 2115, 2091, 2092, 2093, 2094, 2095, 2096, 2097, 2098, 2099, 2100, 2101, 2102, 2103, 2104, 2121, 2122, 2123, 2124, 2125, 2126, 2127, 2128, 2129, 2130, 2131, 2132, 2133, 2134, 2135, 2136, 2137, 2138, 2139, 2140, 2141, 2142, 2143, 2144, 2145, 2146, 2147, 2148, 2149, 2150, 2151, 2152, 2153, 2154, 2116, 2117, 2118, 2119, 2120] (by decide +kernel) (by decide +kernel)) (goodIn_sub (fun _ h => List.mem_append_left _ (List.mem_append_left _ (List.mem_append_left _ (List.mem_append_right _ h)))) (by decide +kernel))) (goodIn_sub (fun _ h => List.mem_append_left _ (List.mem_append_left _ (List.mem_append_right _ h))) (by decide +kernel))) (goodIn_sub (fun _ h => List.mem_append_left _ (List.mem_append_right _ h)) (by decide +kernel))
set_option maxRecDepth 20000 in
theorem gL_law_L_parseSetup : GoodIn wsL_law (va_wsS RL 209 yL_parseSetup wsL_parseSetup) := goodIn_app (goodIn_of _ (by decide +kernel)) ggL_law_L_parseSetup
set_option maxRecDepth 20000 in
theorem ggL_law_X10_parseSetup : GoodIn wsL_law wsX10_parseSetup := goodIn_ca (goodIn_r _ [688, 147, 689, 690, 691, 129, 692, 693, 694, 146, 695, 696, 127, 697, 698, 5, 699, 700, 701, 702, 703, 704, 705, 706, 707, 122, 123, 708, 709, 710, 711, 712, 713, 714, 715, 716, 717, 718, 719, 720, 721, 722, 128, 723, 724, 725, 726, 727, 728, 729, 730, 731, 732, 733, 734, 735, 736, 737, 738, 739, 740, 741, 742, 743, 744, 745, 251, 252, 253, 254, 255, 256, 257, 258, 259, 260, 261, 746, 266, 267, 268, 269, 270, 271, 272, 273, 274, 275, 276, 277, 278, 279, 280, 281, 282, 283, 284, 285, 286, 49, 287, 288, 289, 290, 291, 292, 293, 294, 295, 296, 297, 298, 299, 300, 747, 748, 749, 750, 751, 752, 753, 754, 755, 756, 757, 758, 759, 760, 761, 762, 763, 764, 765, 766, 767, 768, 769, 770, 771, 772, 773, 774, 775, 776, 777, 778, 779, 780, 781, 782, 783, 784, 785, 786, 787, 788, 789, 790, 791, 792, 793, 794, 795, 796, 797, 798, 799, 800, 801, 802, 803, 804, 805, 806, 807, 808, 809, 810, 811, 812, 813, 814, 815, 816, 817, 818, 819, 820, 821, 822, 823, 824, 825, 826, 827, 828, 829, 830, 831, 832, 833, 834, 835, 836, 837, 838, 839, 840, 841, 842, 843, 844, 845, 846, 847, 848, 849, 850, 851, 852, 853, 854, 855, 856, 857, 858, 859, 860, 861, 862, 863, 864, 865, 866, 867, 868, 869, 870, 871, 872, 873, 874, 875, 876, 877, 878, 879, 880, 881, 882, 883, 884, 885, 886, 887, 888, 889, 890, 891, 892, 893, 894, 895, 896, 897, 898, 899, 900, 901, 902, 903, 904, 905, 906, 907, 908, 909, 910, 911, 912, 913, 914, 915, 916, 917, 918, 919, 920, 921, 922, 923, 924, 925, 926, 927, 928, 929, 930, 931, 932, 933, 934, 935, 936, 937, 938, 939, 940, 941, 942, 943, 944, 945, 946, 947, 948, 949, 950, 951, 952, 953, 954, 537, 538, 539, 955, 956, 957, 958, 959, 960, 961, 962, 963, 550, 551, 964, 965, 966, 967, 968, 969, 970, 971, 972, 973, 974, 975, 976, 977, 978, 979, 980, 981, 982, 983, 984, 985, 986, 987, 988, 588, 589, 989, 990, 991, 992, 993, 994, 995, 996, 997, 998, 999, 1000, 1001, 1002, 1003, 1004, 1005, 1006, 1007, 1008, 1009, 1010, 1011, 1012, 1013, 1014, 1015, 1016, 1017, 1018, 1019, 1020, 1021, 1022, 1023, 1024, 2065, 2066, 2067, 2068, 2069, 2070, 2071, 2072, 2073, 2074, 2075, 2076, 2077, 2078, 2079, 2080, 2081, 2082, 2083, 2084, 2085, 2086, 2151, 2152, 2153, 2154] (by decide +kernel) (by decide +kernel)) (goodIn_sub (fun _ h => List.mem_append_left _ (List.mem_append_left _ (List.mem_append_left _ (List.mem_append_right _ h)))) (by decide +kernel))
set_option maxRecDepth 20000 in
theorem gL_law_X10_parseSetup : GoodIn wsL_law (wsV RL 214 RX10 yX10_parseSetup wsX10_parseSetup) := goodIn_app (goodIn_of _ (by decide +kernel)) ggL_law_X10_parseSetup
set_option maxRecDepth 20000 in
theorem ggL_law_X10_thrown : GoodIn wsL_law wsX10_thrown := goodIn_r _ [1028, 146, 2065, 2066, 2067, 2068, 2069, 2070, 2071, 2072, 2073, 2074, 2075, 2076, 2077, 2078, 2079, 2080, 2081, 2082, 2083, 2084, 2085, 2086] (by decide +kernel) (by decide +kernel)
set_option maxRecDepth 20000 in
theorem gL_law_X10_thrown : GoodIn wsL_law (wsV RL 215 RX10 yX10_thrown wsX10_thrown) := goodIn_app (goodIn_of _ (by decide +kernel)) ggL_law_X10_thrown
set_option maxRecDepth 20000 in
theorem ggL_law_X9_parseErrorCode : GoodIn wsL_law wsX9_parseErrorCode := goodIn_r _ [1032, 28, 1033, 2057, 2058, 2059, 2060, 2061, 2062, 2063, 2064, 2105, 2106, 2107, 2108, 2109, 2110, 2111, 2112, 2113, 2114, 2115] (by decide +kernel) (by decide +kernel)
set_option maxRecDepth 20000 in
theorem gL_law_X9_parseErrorCode : GoodIn wsL_law (wsV RL 218 RX9 yX9_parseErrorCode wsX9_parseErrorCode) := goodIn_app (goodIn_of _ (by decide +kernel)) ggL_law_X9_parseErrorCode
set_option maxRecDepth 20000 in
theorem ggL_law_X10_parseErrorCode : GoodIn wsL_law wsX10_parseErrorCode := goodIn_r _ [1037, 146, 691, 2065, 2066, 2067, 2068, 2069, 2070, 2071, 2072, 2073, 2074, 2075, 2076, 2077, 2078, 2079, 2080, 2081, 2082, 2083, 2084, 2085, 2086] (by decide +kernel) (by decide +kernel)
set_option maxRecDepth 20000 in
theorem gL_law_X10_parseErrorCode : GoodIn wsL_law (wsV RL 221 RX10 yX10_parseErrorCode wsX10_parseErrorCode) := goodIn_app (goodIn_of _ (by decide +kernel)) ggL_law_X10_parseErrorCode
set_option maxRecDepth 20000 in
theorem ggL_law_X9_parseErrorPosition : GoodIn wsL_law wsX9_parseErrorPosition := goodIn_r _ [1041, 28, 1042, 2057, 2058, 2059, 2060, 2061, 2062, 2063, 2064, 2105, 2106, 2107, 2108, 2109, 2110, 2111, 2112, 2113, 2114, 2115] (by decide +kernel) (by decide +kernel)
set_option maxRecDepth 20000 in
theorem gL_law_X9_parseErrorPosition : GoodIn wsL_law (wsV RL 222 RX9 yX9_parseErrorPosition wsX9_parseErrorPosition) := goodIn_app (goodIn_of _ (by decide +kernel)) ggL_law_X9_parseErrorPosition
set_option maxRecDepth 20000 in
theorem ggL_law_X10_parseErrorPosition : GoodIn wsL_law wsX10_parseErrorPosition := goodIn_r _ [1046, 146, 129, 2065, 2066, 2067, 2068, 2069, 2070, 2071, 2072, 2073, 2074, 2075, 2076, 2077, 2078, 2079, 2080, 2081, 2082, 2083, 2084, 2085, 2086] (by decide +kernel) (by decide +kernel)
set_option maxRecDepth 20000 in
theorem gL_law_X10_parseErrorPosition : GoodIn wsL_law (wsV RL 225 RX10 yX10_parseErrorPosition wsX10_parseErrorPosition) := goodIn_app (goodIn_of _ (by decide +kernel)) ggL_law_X10_parseErrorPosition
set_option maxRecDepth 20000 in
theorem ggL_law_X9_bufferLength : GoodIn wsL_law wsX9_bufferLength := goodIn_r _ [1050, 33, 2057, 2058, 2059, 2060, 2061, 2062, 2063, 2064] (by decide +kernel) (by decide +kernel)
set_option maxRecDepth 20000 in
theorem gL_law_X9_bufferLength : GoodIn wsL_law (wsV RL 226 RX9 yX9_bufferLength wsX9_bufferLength) := goodIn_app (goodIn_of _ (by decide +kernel)) ggL_law_X9_bufferLength
set_option maxRecDepth 20000 in
theorem ggL_law_X10_bufferLength : GoodIn wsL_law wsX10_bufferLength := goodIn_r _ [1054, 146, 147, 2065, 2066, 2067, 2068, 2069, 2070, 2071, 2072, 2073, 2074, 2075, 2076, 2077, 2078, 2079, 2080, 2081, 2082, 2083, 2084, 2085, 2086] (by decide +kernel) (by decide +kernel)
set_option maxRecDepth 20000 in
theorem gL_law_X10_bufferLength : GoodIn wsL_law (wsV RL 229 RX10 yX10_bufferLength wsX10_bufferLength) := goodIn_app (goodIn_of _ (by decide +kernel)) ggL_law_X10_bufferLength
set_option maxRecDepth 20000 in
theorem ggL_law_L_rows : GoodIn wsL_law wsL_rows := goodIn_ca (goodIn_ca (goodIn_r _ [1057, 1058, 1059, 1060, 1061, 2, 1062, 23, 1063, 1064, 1065, 1066, 1067, 1068, 1069, 1070, 34, 2057, 2058, 2059, 2060, 2061, 2062, 2063, 2064, 2091, 2092, 2093, 2094, 2095, 2096, 2097, 2098, 2099, 2100, 2101, 2102, 2103, 2104, 2121, 2122, 2123, 2124, 2125, 2126, 2127, 2128, 2129, 2130, 2131, 2132, 2133] (by decide +kernel) (by decide +kernel)) (goodIn_sub (fun _ h => List.mem_append_left _ (List.mem_append_left _ (List.mem_append_left _ (List.mem_append_right _ h)))) (by decide +kernel))) (goodIn_sub (fun _ h => List.mem_append_right _ h) (by decide +kernel))
set_option maxRecDepth 20000 in
theorem gL_law_L_rows : GoodIn wsL_law (va_wsS RL 230 yL_rows wsL_rows) := goodIn_app (goodIn_of _ (by decide +kernel)) ggL_law_L_rows
set_option maxRecDepth 20000 in
theorem ggL_law_X10_rows : GoodIn wsL_law wsX10_rows := goodIn_ca (goodIn_r _ [1074, 1075, 1076, 1077, 5, 1078, 122, 1079, 1080, 1081, 1082, 695, 700, 701, 702, 703, 146, 2065, 2066, 2067, 2068, 2069, 2070, 2071, 2072, 2073, 2074, 2075, 2076, 2077, 2078, 2079, 2080, 2081, 2082, 2083, 2084, 2085, 2086] (by decide +kernel) (by decide +kernel)) (goodIn_sub (fun _ h => List.mem_append_left _ (List.mem_append_left _ (List.mem_append_left _ (List.mem_append_right _ h)))) (by decide +kernel))
set_option maxRecDepth 20000 in
theorem gL_law_X10_rows : GoodIn wsL_law (wsV RL 233 RX10 yX10_rows wsX10_rows) := goodIn_app (goodIn_of _ (by decide +kernel)) ggL_law_X10_rows
set_option maxRecDepth 20000 in
theorem ggL_law_L_columns : GoodIn wsL_law wsL_columns := goodIn_ca (goodIn_ca (goodIn_r _ [1085, 1058, 1086, 1087, 1088, 2, 1089, 23, 1063, 1090, 1065, 1066, 1067, 1068, 1069, 1070, 34, 2057, 2058, 2059, 2060, 2061, 2062, 2063, 2064, 2091, 2092, 2093, 2094, 2095, 2096, 2097, 2098, 2099, 2100, 2101, 2102, 2103, 2104, 2121, 2122, 2123, 2124, 2125, 2126, 2127, 2128, 2129, 2130, 2131, 2132, 2133] (by decide +kernel) (by decide +kernel)) (goodIn_sub (fun _ h => List.mem_append_left _ (List.mem_append_left _ (List.mem_append_left _ (List.mem_append_right _ h)))) (by decide +kernel))) (goodIn_sub (fun _ h => List.mem_append_right _ h) (by decide +kernel))
set_option maxRecDepth 20000 in
theorem gL_law_L_columns : GoodIn wsL_law (va_wsS RL 234 yL_columns wsL_columns) := goodIn_app (goodIn_of _ (by decide +kernel)) ggL_law_L_columns
set_option maxRecDepth 20000 in
theorem ggL_law_X10_columns : GoodIn wsL_law wsX10_columns := goodIn_ca (goodIn_r _ [1094, 1075, 1076, 1077, 5, 1078, 122, 1079, 1080, 1081, 1082, 695, 700, 701, 702, 703, 146, 2065, 2066, 2067, 2068, 2069, 2070, 2071, 2072, 2073, 2074, 2075, 2076, 2077, 2078, 2079, 2080, 2081, 2082, 2083, 2084, 2085, 2086] (by decide +kernel) (by decide +kernel)) (goodIn_sub (fun _ h => List.mem_append_left _ (List.mem_append_left _ (List.mem_append_left _ (List.mem_append_right _ h)))) (by decide +kernel))
set_option maxRecDepth 20000 in
theorem gL_law_X10_columns : GoodIn wsL_law (wsV RL 236 RX10 yX10_columns wsX10_columns) := goodIn_app (goodIn_of _ (by decide +kernel)) ggL_law_X10_columns
set_option maxRecDepth 20000 in
theorem ggL_law_L_minutesPerRow : GoodIn wsL_law wsL_minutesPerRow := goodIn_ca (goodIn_ca (goodIn_r _ [1097, 1058, 1098, 1099, 1100, 2, 1101, 23, 1063, 1102, 1065, 1066, 1067, 1068, 1069, 1070, 34, 2057, 2058, 2059, 2060, 2061, 2062, 2063, 2064, 2091, 2092, 2093, 2094, 2095, 2096, 2097, 2098, 2099, 2100, 2101, 2102, 2103, 2104, 2121, 2122, 2123, 2124, 2125, 2126, 2127, 2128, 2129, 2130, 2131, 2132, 2133] (by decide +kernel) (by decide +kernel)) (goodIn_sub (fun _ h => List.mem_append_left _ (List.mem_append_left _ (List.mem_append_left _ (List.mem_append_right _ h)))) (by decide +kernel))) (goodIn_sub (fun _ h => List.mem_append_right _ h) (by decide +kernel))
set_option maxRecDepth 20000 in
theorem gL_law_L_minutesPerRow : GoodIn wsL_law (va_wsS RL 237 yL_minutesPerRow wsL_minutesPerRow) := goodIn_app (goodIn_of _ (by decide +kernel)) ggL_law_L_minutesPerRow
set_option maxRecDepth 20000 in
theorem ggL_law_X10_minutesPerRow : GoodIn wsL_law wsX10_minutesPerRow := goodIn_ca (goodIn_r _ [1106, 1075, 1076, 1077, 5, 1078, 122, 1079, 1080, 1081, 1082, 695, 700, 701, 702, 703, 146, 2065, 2066, 2067, 2068, 2069, 2070, 2071, 2072, 2073, 2074, 2075, 2076, 2077, 2078, 2079, 2080, 2081, 2082, 2083, 2084, 2085, 2086] (by decide +kernel) (by decide +kernel)) (goodIn_sub (fun _ h => List.mem_append_left _ (List.mem_append_left _ (List.mem_append_left _ (List.mem_append_right _ h)))) (by decide +kernel))
set_option maxRecDepth 20000 in
theorem gL_law_X10_minutesPerRow : GoodIn wsL_law (wsV RL 239 RX10 yX10_minutesPerRow wsX10_minutesPerRow) := goodIn_app (goodIn_of _ (by decide +kernel)) ggL_law_X10_minutesPerRow
set_option maxRecDepth 20000 in
theorem ggL_law_L_night : GoodIn wsL_law wsL_night := goodIn_ca (goodIn_ca (goodIn_r _ [1109, 1058, 1110, 1111, 1112, 2, 1113, 23, 1114, 1065, 1066, 1067, 1068, 1069, 1070, 34, 2057, 2058, 2059, 2060, 2061, 2062, 2063, 2064, 2091, 2092, 2093, 2094, 2095, 2096, 2097, 2098, 2099, 2100, 2101, 2102, 2103, 2104] (by decide +kernel) (by decide +kernel)) (goodIn_sub (fun _ h => List.mem_append_left _ (List.mem_append_left _ (List.mem_append_left _ (List.mem_append_right _ h)))) (by decide +kernel))) (goodIn_sub (fun _ h => List.mem_append_right _ h) (by decide +kernel))
set_option maxRecDepth 20000 in
theorem gL_law_L_night : GoodIn wsL_law (va_wsS RL 240 yL_night wsL_night) := goodIn_app (goodIn_of _ (by decide +kernel)) ggL_law_L_night
set_option maxRecDepth 20000 in
theorem ggL_law_X10_night : GoodIn wsL_law wsX10_night := goodIn_ca (goodIn_r _ [1118, 1075, 1076, 1077, 5, 1078, 122, 1079, 1080, 1081, 1082, 695, 700, 701, 702, 703, 146, 2065, 2066, 2067, 2068, 2069, 2070, 2071, 2072, 2073, 2074, 2075, 2076, 2077, 2078, 2079, 2080, 2081, 2082, 2083, 2084, 2085, 2086] (by decide +kernel) (by decide +kernel)) (goodIn_sub (fun _ h => List.mem_append_left _ (List.mem_append_left _ (List.mem_append_left _ (List.mem_append_right _ h)))) (by decide +kernel))
set_option maxRecDepth 20000 in
theorem gL_law_X10_night : GoodIn wsL_law (wsV RL 242 RX10 yX10_night wsX10_night) := goodIn_app (goodIn_of _ (by decide +kernel)) ggL_law_X10_night
set_option maxRecDepth 20000 in
theorem ggL_law_L_minute : GoodIn wsL_law wsL_minute := goodIn_ca (goodIn_ca (goodIn_r _ [1121, 1058, 1122, 1123, 1124, 2, 1125, 23, 1126, 1065, 1066, 1067, 1068, 1069, 1070, 34, 2057, 2058, 2059, 2060, 2061, 2062, 2063, 2064, 2091, 2092, 2093, 2094, 2095, 2096, 2097, 2098, 2099, 2100, 2101, 2102, 2103, 2104] (by decide +kernel) (by decide +kernel)) (goodIn_sub (fun _ h => List.mem_append_left _ (List.mem_append_left _ (List.mem_append_left _ (List.mem_append_right _ h)))) (by decide +kernel))) (goodIn_sub (fun _ h => List.mem_append_right _ h) (by decide +kernel))
set_option maxRecDepth 20000 in
theorem gL_law_L_minute : GoodIn wsL_law (va_wsS RL 243 yL_minute wsL_minute) := goodIn_app (goodIn_of _ (by decide +kernel)) ggL_law_L_minute
set_option maxRecDepth 20000 in
theorem ggL_law_X10_minute : GoodIn wsL_law wsX10_minute := goodIn_ca (goodIn_r _ [1130, 1075, 1076, 1077, 5, 1078, 122, 1079, 1080, 1081, 1082, 695, 700, 701, 702, 703, 146, 2065, 2066, 2067, 2068, 2069, 2070, 2071, 2072, 2073, 2074, 2075, 2076, 2077, 2078, 2079, 2080, 2081, 2082, 2083, 2084, 2085, 2086] (by decide +kernel) (by decide +kernel)) (goodIn_sub (fun _ h => List.mem_append_left _ (List.mem_append_left _ (List.mem_append_left _ (List.mem_append_right _ h)))) (by decide +kernel))
set_option maxRecDepth 20000 in
theorem gL_law_X10_minute : GoodIn wsL_law (wsV RL 245 RX10 yX10_minute wsX10_minute) := goodIn_app (goodIn_of _ (by decide +kernel)) ggL_law_X10_minute
set_option maxRecDepth 20000 in
theorem ggL_law_L_brightness : GoodIn wsL_law wsL_brightness := goodIn_ca (goodIn_ca (goodIn_r _ [1133, 1058, 1134, 1135, 1136, 2, 1137, 23, 1065, 1066, 1067, 1068, 1069, 1070, 34, 1138, 376, 377, 22, 378, 184, 2057, 2058, 2059, 2060, 2061, 2062, 2063, 2064, 2091, 2092, 2093, 2094, 2095, 2096, 2097, 2098, 2099, 2100, 2101, 2102, 2103, 2104] (by decide +kernel) (by decide +kernel)) (goodIn_sub (fun _ h => List.mem_append_left _ (List.mem_append_left _ (List.mem_append_left _ (List.mem_append_right _ h)))) (by decide +kernel))) (goodIn_sub (fun _ h => List.mem_append_right _ h) (by decide +kernel))
set_option maxRecDepth 20000 in
theorem gL_law_L_brightness : GoodIn wsL_law (va_wsS RL 246 yL_brightness wsL_brightness) := goodIn_app (goodIn_of _ (by decide +kernel)) ggL_law_L_brightness
set_option maxRecDepth 20000 in
theorem ggL_law_X10_brightness : GoodIn wsL_law wsX10_brightness := goodIn_ca (goodIn_r _ [1142, 1079, 1080, 1081, 5, 1082, 695, 700, 701, 702, 703, 146, 882, 883, 884, 885, 122, 2065, 2066, 2067, 2068, 2069, 2070, 2071, 2072, 2073, 2074, 2075, 2076, 2077, 2078, 2079, 2080, 2081, 2082, 2083, 2084, 2085, 2086] (by decide +kernel) (by decide +kernel)) (goodIn_sub (fun _ h => List.mem_append_left _ (List.mem_append_left _ (List.mem_append_left _ (List.mem_append_right _ h)))) (by decide +kernel))
set_option maxRecDepth 20000 in
theorem gL_law_X10_brightness : GoodIn wsL_law (wsV RL 248 RX10 yX10_brightness wsX10_brightness) := goodIn_app (goodIn_of _ (by decide +kernel)) ggL_law_X10_brightness
set_option maxRecDepth 20000 in
theorem ggL_law_L_moonRow : GoodIn wsL_law wsL_moonRow := goodIn_ca (goodIn_ca (goodIn_r _ [1145, 1058, 1146, 1147, 1148, 2, 1149, 23, 1065, 1066, 1067, 1068, 1069, 1070, 34, 1150, 392, 393, 22, 394, 61, 395, 185, 2057, 2058, 2059, 2060, 2061, 2062, 2063, 2064, 2091, 2092, 2093, 2094, 2095, 2096, 2097, 2098, 2099, 2100, 2101, 2102, 2103, 2104, 2121, 2122, 2123, 2124, 2125, 2126, 2127, 2128, 2129, 2130, 2131, 2132, 2133] (by decide +kernel) (by decide +kernel)) (goodIn_sub (fun _ h => List.mem_append_left _ (List.mem_append_left _ (List.mem_append_left _ (List.mem_append_right _ h)))) (by decide +kernel))) (goodIn_sub (fun _ h => List.mem_append_right _ h) (by decide +kernel))
set_option maxRecDepth 20000 in
theorem gL_law_L_moonRow : GoodIn wsL_law (va_wsS RL 249 yL_moonRow wsL_moonRow) := goodIn_app (goodIn_of _ (by decide +kernel)) ggL_law_L_moonRow
set_option maxRecDepth 20000 in
theorem ggL_law_X10_moonRow : GoodIn wsL_law wsX10_moonRow := goodIn_ca (goodIn_r _ [1154, 1079, 1080, 1081, 5, 1082, 695, 700, 701, 702, 703, 146, 894, 895, 896, 897, 122, 2065, 2066, 2067, 2068, 2069, 2070, 2071, 2072, 2073, 2074, 2075, 2076, 2077, 2078, 2079, 2080, 2081, 2082, 2083, 2084, 2085, 2086] (by decide +kernel) (by decide +kernel)) (goodIn_sub (fun _ h => List.mem_append_left _ (List.mem_append_left _ (List.mem_append_left _ (List.mem_append_right _ h)))) (by decide +kernel))
set_option maxRecDepth 20000 in
theorem gL_law_X10_moonRow : GoodIn wsL_law (wsV RL 251 RX10 yX10_moonRow wsX10_moonRow) := goodIn_app (goodIn_of _ (by decide +kernel)) ggL_law_X10_moonRow
set_option maxRecDepth 20000 in
theorem ggL_law_L_moonShines : GoodIn wsL_law wsL_moonShines := goodIn_ca (goodIn_ca (goodIn_r _ [1157, 1058, 1158, 1159, 1160, 2, 1161, 23, 1065, 1066, 1067, 1068, 1069, 1070, 34, 1162, 372, 373, 22, 374, 61, 185, 375, 376, 377, 378, 184, 379, 380, 381, 60, 382, 200, 79, 80, 2057, 2058, 2059, 2060, 2061, 2062, 2063, 2064, 2091, 2092, 2093, 2094, 2095, 2096, 2097, 2098, 2099, 2100, 2101, 2102, 2103, 2104, 2121, 2122, 2123, 2124, 2125, 2126, 2127, 2128, 2129, 2130, 2131, 2132, 2133] (by decide +kernel) (by decide +kernel)) (goodIn_sub (fun _ h => List.mem_append_left _ (List.mem_append_left _ (List.mem_append_left _ (List.mem_append_right _ h)))) (by decide +kernel))) (goodIn_sub (fun _ h => List.mem_append_right _ h) (by decide +kernel))
set_option maxRecDepth 20000 in
theorem gL_law_L_moonShines : GoodIn wsL_law (va_wsS RL 252 yL_moonShines wsL_moonShines) := goodIn_app (goodIn_of _ (by decide +kernel)) ggL_law_L_moonShines
set_option maxRecDepth 20000 in
theorem ggL_law_X10_moonShines : GoodIn wsL_law wsX10_moonShines := goodIn_ca (goodIn_r _ [1166, 1079, 1080, 1081, 5, 1082, 695, 700, 701, 702, 703, 146, 878, 879, 880, 881, 882, 883, 884, 885, 122, 886, 887, 888, 889, 697, 698, 699, 2065, 2066, 2067, 2068, 2069, 2070, 2071, 2072, 2073, 2074, 2075, 2076, 2077, 2078, 2079, 2080, 2081, 2082, 2083, 2084, 2085, 2086] (by decide +kernel) (by decide +kernel)) (goodIn_sub (fun _ h => List.mem_append_left _ (List.mem_append_left _ (List.mem_append_left _ (List.mem_append_right _ h)))) (by decide +kernel))
set_option maxRecDepth 20000 in
theorem gL_law_X10_moonShines : GoodIn wsL_law (wsV RL 254 RX10 yX10_moonShines wsX10_moonShines) := goodIn_app (goodIn_of _ (by decide +kernel)) ggL_law_X10_moonShines
set_option maxRecDepth 20000 in
theorem ggL_law_L_isLit : GoodIn wsL_law wsL_isLit := goodIn_ca (goodIn_ca (goodIn_ca (goodIn_r _ [1169, 1058, 1170, 1171, 1172, 2, 1173, 23, 1065, 1066, 1067, 1068, 1069, 1070, 34, 1174, 1175, 1176, 1177, 161, 162, 684, 448, 449, 22, 450, 61, 430, 369, 1178, 1179, 1180, 1181, 371, 372, 373, 374, 185, 375, 376, 377, 378, 184, 379, 380, 381, 60, 382, 200, 79, 80, 383, 384, 385, 386, 70, 387, 388, 389, 390, 391, 392, 393, 394, 395, 396, 397, 398, 399, 232, 233, 2057, 2058, 2059, 2060, 2061, 2062, 2063, 2064, 2091, 2092, 2093, 2094, 2095, 2096, 2097, 2098, 2099, 2100, 2101, 2102, 2103, 2104, 2121, 2122, 2123, 2124, 2125, 2126, 2127, 2128, 2129, 2130, 2131, 2132, 2133] (by decide +kernel) (by decide +kernel)) (goodIn_sub (fun _ h => List.mem_append_left _ (List.mem_append_left _ (List.mem_append_left _ (List.mem_append_right _ h)))) (by decide +kernel))) (goodIn_sub (fun _ h => List.mem_append_right _ h) (by decide +kernel))) (goodIn_sub (fun _ h => List.mem_append_left _ (List.mem_append_left _ (List.mem_append_right _ h))) (by decide +kernel))
set_option maxRecDepth 20000 in
theorem gL_law_L_isLit : GoodIn wsL_law (va_wsS RL 255 yL_isLit wsL_isLit) := goodIn_app (goodIn_of _ (by decide +kernel)) ggL_law_L_isLit
set_option maxRecDepth 20000 in
theorem ggL_law_X10_isLit : GoodIn wsL_law wsX10_isLit := goodIn_ca (goodIn_r _ [1185, 1186, 1187, 1188, 5, 1189, 695, 1190, 1191, 1192, 1193, 790, 791, 792, 793, 122, 697, 698, 699, 1194, 1195, 1196, 1197, 700, 701, 702, 703, 146, 890, 891, 892, 893, 878, 879, 880, 881, 882, 883, 884, 885, 886, 887, 888, 889, 894, 895, 896, 897, 898, 899, 900, 901, 2065, 2066, 2067, 2068, 2069, 2070, 2071, 2072, 2073, 2074, 2075, 2076, 2077, 2078, 2079, 2080, 2081, 2082, 2083, 2084, 2085, 2086] (by decide +kernel) (by decide +kernel)) (goodIn_sub (fun _ h => List.mem_append_left _ (List.mem_append_left _ (List.mem_append_left _ (List.mem_append_right _ h)))) (by decide +kernel))
set_option maxRecDepth 20000 in
theorem gL_law_X10_isLit : GoodIn wsL_law (wsV RL 257 RX10 yX10_isLit wsX10_isLit) := goodIn_app (goodIn_of _ (by decide +kernel)) ggL_law_X10_isLit
set_option maxRecDepth 20000 in
theorem ggL_law_L_isCurtainClosed : GoodIn wsL_law wsL_isCurtainClosed := goodIn_ca (goodIn_ca (goodIn_ca (goodIn_r _ [1200, 1058, 1201, 1202, 1203, 2, 1204, 23, 1205, 1065, 1066, 1067, 1068, 1069, 1070, 34, 1206, 1207, 1208, 1209, 161, 162, 1063, 1090, 1210, 232, 233, 2057, 2058, 2059, 2060, 2061, 2062, 2063, 2064, 2091, 2092, 2093, 2094, 2095, 2096, 2097, 2098, 2099, 2100, 2101, 2102, 2103, 2104, 2121, 2122, 2123, 2124, 2125, 2126, 2127, 2128, 2129, 2130, 2131, 2132, 2133] (by decide +kernel) (by decide +kernel)) (goodIn_sub (fun _ h => List.mem_append_left _ (List.mem_append_left _ (List.mem_append_left _ (List.mem_append_right _ h)))) (by decide +kernel))) (goodIn_sub (fun _ h => List.mem_append_right _ h) (by decide +kernel))) (goodIn_sub (fun _ h => List.mem_append_left _ (List.mem_append_left _ (List.mem_append_right _ h))) (by decide +kernel))
set_option maxRecDepth 20000 in
theorem gL_law_L_isCurtainClosed : GoodIn wsL_law (va_wsS RL 258 yL_isCurtainClosed wsL_isCurtainClosed) := goodIn_app (goodIn_of _ (by decide +kernel)) ggL_law_L_isCurtainClosed
set_option maxRecDepth 20000 in
theorem ggL_law_X10_isCurtainClosed : GoodIn wsL_law wsX10_isCurtainClosed := goodIn_ca (goodIn_r _ [1214, 695, 1215, 1216, 1217, 5, 1218, 122, 697, 698, 699, 1194, 1195, 1196, 1197, 700, 701, 702, 703, 146, 898, 899, 900, 901, 2065, 2066, 2067, 2068, 2069, 2070, 2071, 2072, 2073, 2074, 2075, 2076, 2077, 2078, 2079, 2080, 2081, 2082, 2083, 2084, 2085, 2086] (by decide +kernel) (by decide +kernel)) (goodIn_sub (fun _ h => List.mem_append_left _ (List.mem_append_left _ (List.mem_append_left _ (List.mem_append_right _ h)))) (by decide +kernel))
set_option maxRecDepth 20000 in
theorem gL_law_X10_isCurtainClosed : GoodIn wsL_law (wsV RL 260 RX10 yX10_isCurtainClosed wsX10_isCurtainClosed) := goodIn_app (goodIn_of _ (by decide +kernel)) ggL_law_X10_isCurtainClosed
set_option maxRecDepth 20000 in
theorem ggL_law_L_draughtPeriod : GoodIn wsL_law wsL_draughtPeriod := goodIn_ca (goodIn_ca (goodIn_ca (goodIn_r _ [1221, 1058, 1222, 1223, 1224, 2, 1225, 23, 1063, 1226, 1065, 1066, 1067, 1068, 1069, 1070, 34, 1206, 1207, 1208, 1209, 161, 162, 1090, 1210, 232, 233, 2057, 2058, 2059, 2060, 2061, 2062, 2063, 2064, 2091, 2092, 2093, 2094, 2095, 2096, 2097, 2098, 2099, 2100, 2101, 2102, 2103, 2104, 2121, 2122, 2123, 2124, 2125, 2126, 2127, 2128, 2129, 2130, 2131, 2132, 2133] (by decide +kernel) (by decide +kernel)) (goodIn_sub (fun _ h => List.mem_append_left _ (List.mem_append_left _ (List.mem_append_left _ (List.mem_append_right _ h)))) (by decide +kernel))) (goodIn_sub (fun _ h => List.mem_append_right _ h) (by decide +kernel))) (goodIn_sub (fun _ h => List.mem_append_left _ (List.mem_append_left _ (List.mem_append_right _ h))) (by decide +kernel))
set_option maxRecDepth 20000 in
theorem gL_law_L_draughtPeriod : GoodIn wsL_law (va_wsS RL 261 yL_draughtPeriod wsL_draughtPeriod) := goodIn_app (goodIn_of _ (by decide +kernel)) ggL_law_L_draughtPeriod
set_option maxRecDepth 20000 in
theorem ggL_law_X10_draughtPeriod : GoodIn wsL_law wsX10_draughtPeriod := goodIn_ca (goodIn_r _ [1230, 695, 122, 1215, 1216, 1217, 5, 1218, 697, 698, 699, 1194, 1195, 1196, 1197, 700, 701, 702, 703, 146, 2065, 2066, 2067, 2068, 2069, 2070, 2071, 2072, 2073, 2074, 2075, 2076, 2077, 2078, 2079, 2080, 2081, 2082, 2083, 2084, 2085, 2086] (by decide +kernel) (by decide +kernel)) (goodIn_sub (fun _ h => List.mem_append_left _ (List.mem_append_left _ (List.mem_append_left _ (List.mem_append_right _ h)))) (by decide +kernel))
set_option maxRecDepth 20000 in
theorem gL_law_X10_draughtPeriod : GoodIn wsL_law (wsV RL 263 RX10 yX10_draughtPeriod wsX10_draughtPeriod) := goodIn_app (goodIn_of _ (by decide +kernel)) ggL_law_X10_draughtPeriod
set_option maxRecDepth 20000 in
theorem ggL_law_L_minutesUntilLit : GoodIn wsL_law wsL_minutesUntilLit := goodIn_ca (goodIn_ca (goodIn_ca (goodIn_r _ [1233, 1058, 1234, 1235, 1236, 2, 1237, 24, 23, 1065, 1066, 1067, 1068, 1069, 1070, 34, 1174, 1175, 1176, 1177, 161, 162, 684, 448, 449, 22, 450, 61, 430, 369, 651, 652, 653, 654, 65, 69, 70, 71, 72, 73, 74, 183, 184, 185, 186, 187, 188, 655, 656, 657, 60, 658, 78, 79, 80, 81, 193, 194, 195, 196, 197, 198, 199, 200, 201, 659, 660, 661, 550, 538, 551, 662, 663, 664, 665, 666, 667, 668, 64, 669, 210, 211, 212, 213, 214, 215, 216, 217, 218, 670, 671, 672, 68, 673, 88, 89, 223, 1178, 1179, 1180, 1181, 371, 372, 373, 374, 375, 376, 377, 378, 379, 380, 381, 382, 383, 384, 385, 386, 387, 388, 389, 390, 391, 392, 393, 394, 395, 396, 397, 398, 399, 232, 233, 1238, 507, 508, 509, 510, 368, 511, 512, 513, 514, 515, 516, 517, 518, 519, 520, 521, 522, 523, 524, 525, 526, 527, 140, 141, 528, 529, 530, 531, 532, 533, 534, 535, 536, 537, 539, 540, 541, 542, 543, 370, 544, 545, 546, 547, 548, 549, 552, 553, 554, 555, 556, 557, 558, 559, 560, 561, 562, 563, 564, 565, 566, 567, 568, 569, 570, 452, 453, 454, 571, 572, 573, 574, 575, 576, 577, 578, 579, 580, 581, 582, 583, 584, 585, 586, 587, 588, 589, 590, 591, 427, 428, 429, 592, 593, 594, 595, 596, 597, 598, 599, 600, 601, 602, 603, 604, 605, 606, 607, 608, 609, 610, 611, 365, 366, 367, 400, 401, 402, 403, 2057, 2058, 2059, 2060, 2061, 2062, 2063, 2064, 2091, 2092, 2093, 2094, 2095, 2096, 2097, 2098, 2099, 2100, 2101, 2102, 2103, 2104, 2121, 2122, 2123, 2124, 2125, 2126, 2127, 2128, 2129, 2130, 2131, 2132, 2133, 2134, 2135, 2136, 2137, 2138, 2139, 2140, 2141, 2142, 2143, 2144, 2145] (by decide +kernel) (by decide +kernel)) (goodIn_sub (fun _ h => List.mem_append_left _ (List.mem_append_left _ (List.mem_append_left _ (List.mem_append_right _ h)))) (by decide +kernel))) (goodIn_sub (fun _ h => List.mem_append_right _ h) (by decide +kernel))) (goodIn_sub (fun _ h => List.mem_append_left _ (List.mem_append_left _ (List.mem_append_right _ h))) (by decide +kernel))
set_option maxRecDepth 20000 in
theorem gL_law_L_minutesUntilLit : GoodIn wsL_law (va_wsS RL 264 yL_minutesUntilLit wsL_minutesUntilLit) := goodIn_app (goodIn_of _ (by decide +kernel)) ggL_law_L_minutesUntilLit
set_option maxRecDepth 20000 in
theorem ggL_law_X10_minutesUntilLit : GoodIn wsL_law wsX10_minutesUntilLit := goodIn_ca (goodIn_r _ [1242, 1186, 1187, 1188, 5, 1189, 695, 1190, 1191, 1192, 1193, 790, 791, 792, 793, 122, 697, 698, 699, 1194, 1195, 1196, 1197, 700, 701, 702, 703, 146, 704, 705, 706, 707, 123, 708, 709, 710, 1243, 1244, 1245, 1246, 890, 891, 892, 893, 878, 879, 880, 881, 882, 883, 884, 885, 886, 887, 888, 889, 894, 895, 896, 897, 898, 899, 900, 901, 934, 935, 936, 937, 938, 939, 940, 941, 942, 943, 944, 945, 838, 839, 840, 841, 946, 947, 948, 949, 950, 951, 952, 953, 954, 537, 538, 539, 783, 784, 785, 955, 956, 957, 958, 959, 960, 961, 962, 963, 550, 551, 964, 965, 966, 967, 968, 969, 970, 971, 972, 973, 974, 975, 976, 977, 978, 979, 834, 835, 836, 837, 980, 981, 982, 983, 984, 985, 986, 987, 988, 588, 589, 989, 990, 991, 992, 993, 994, 995, 996, 997, 998, 999, 1000, 1001, 1002, 1003, 1004, 1005, 1006, 1007, 1008, 874, 875, 876, 877, 902, 903, 904, 905, 1021, 1022, 1023, 1024, 2065, 2066, 2067, 2068, 2069, 2070, 2071, 2072, 2073, 2074, 2075, 2076, 2077, 2078, 2079, 2080, 2081, 2082, 2083, 2084, 2085, 2086] (by decide +kernel) (by decide +kernel)) (goodIn_sub (fun _ h => List.mem_append_left _ (List.mem_append_left _ (List.mem_append_left _ (List.mem_append_right _ h)))) (by decide +kernel))
set_option maxRecDepth 20000 in
theorem gL_law_X10_minutesUntilLit : GoodIn wsL_law (wsV RL 266 RX10 yX10_minutesUntilLit wsX10_minutesUntilLit) := goodIn_app (goodIn_of _ (by decide +kernel)) ggL_law_X10_minutesUntilLit
set_option maxRecDepth 20000 in
theorem ggL_law_L_nightsUntilFullMoon : GoodIn wsL_law wsL_nightsUntilFullMoon := goodIn_ca (goodIn_ca (goodIn_r _ [1249, 1058, 1250, 1251, 1252, 2, 1253, 23, 1114, 1065, 1066, 1067, 1068, 1069, 1070, 34, 2057, 2058, 2059, 2060, 2061, 2062, 2063, 2064, 2091, 2092, 2093, 2094, 2095, 2096, 2097, 2098, 2099, 2100, 2101, 2102, 2103, 2104] (by decide +kernel) (by decide +kernel)) (goodIn_sub (fun _ h => List.mem_append_left _ (List.mem_append_left _ (List.mem_append_left _ (List.mem_append_right _ h)))) (by decide +kernel))) (goodIn_sub (fun _ h => List.mem_append_right _ h) (by decide +kernel))
set_option maxRecDepth 20000 in
theorem gL_law_L_nightsUntilFullMoon : GoodIn wsL_law (va_wsS RL 267 yL_nightsUntilFullMoon wsL_nightsUntilFullMoon) := goodIn_app (goodIn_of _ (by decide +kernel)) ggL_law_L_nightsUntilFullMoon
set_option maxRecDepth 20000 in
theorem ggL_law_X10_nightsUntilFullMoon : GoodIn wsL_law wsX10_nightsUntilFullMoon := goodIn_ca (goodIn_r _ [1257, 122, 1079, 1080, 1081, 5, 1082, 695, 700, 701, 702, 703, 146, 2065, 2066, 2067, 2068, 2069, 2070, 2071, 2072, 2073, 2074, 2075, 2076, 2077, 2078, 2079, 2080, 2081, 2082, 2083, 2084, 2085, 2086] (by decide +kernel) (by decide +kernel)) (goodIn_sub (fun _ h => List.mem_append_left _ (List.mem_append_left _ (List.mem_append_left _ (List.mem_append_right _ h)))) (by decide +kernel))
set_option maxRecDepth 20000 in
theorem gL_law_X10_nightsUntilFullMoon : GoodIn wsL_law (wsV RL 269 RX10 yX10_nightsUntilFullMoon wsX10_nightsUntilFullMoon) := goodIn_app (goodIn_of _ (by decide +kernel)) ggL_law_X10_nightsUntilFullMoon
set_option maxRecDepth 20000 in
theorem ggL_law_L_pace : GoodIn wsL_law wsL_pace := goodIn_ca (goodIn_ca (goodIn_r _ [1260, 1058, 1261, 1262, 1263, 2, 1264, 23, 1265, 1065, 1066, 1067, 1068, 1069, 1070, 34, 2057, 2058, 2059, 2060, 2061, 2062, 2063, 2064, 2091, 2092, 2093, 2094, 2095, 2096, 2097, 2098, 2099, 2100, 2101, 2102, 2103, 2104] (by decide +kernel) (by decide +kernel)) (goodIn_sub (fun _ h => List.mem_append_left _ (List.mem_append_left _ (List.mem_append_left _ (List.mem_append_right _ h)))) (by decide +kernel))) (goodIn_sub (fun _ h => List.mem_append_right _ h) (by decide +kernel))
set_option maxRecDepth 20000 in
theorem gL_law_L_pace : GoodIn wsL_law (va_wsS RL 270 yL_pace wsL_pace) := goodIn_app (goodIn_of _ (by decide +kernel)) ggL_law_L_pace
set_option maxRecDepth 20000 in
theorem ggL_law_X10_pace : GoodIn wsL_law wsX10_pace := goodIn_ca (goodIn_r _ [1269, 1075, 1076, 1077, 5, 1078, 122, 1079, 1080, 1081, 1082, 695, 700, 701, 702, 703, 146, 2065, 2066, 2067, 2068, 2069, 2070, 2071, 2072, 2073, 2074, 2075, 2076, 2077, 2078, 2079, 2080, 2081, 2082, 2083, 2084, 2085, 2086] (by decide +kernel) (by decide +kernel)) (goodIn_sub (fun _ h => List.mem_append_left _ (List.mem_append_left _ (List.mem_append_left _ (List.mem_append_right _ h)))) (by decide +kernel))
set_option maxRecDepth 20000 in
theorem gL_law_X10_pace : GoodIn wsL_law (wsV RL 272 RX10 yX10_pace wsX10_pace) := goodIn_app (goodIn_of _ (by decide +kernel)) ggL_law_X10_pace
set_option maxRecDepth 20000 in
theorem ggL_law_L_stepsPerMinute : GoodIn wsL_law wsL_stepsPerMinute := goodIn_ca (goodIn_ca (goodIn_r _ [1272, 1058, 1273, 1274, 1275, 2, 1276, 23, 1065, 1066, 1067, 1068, 1069, 1070, 34, 1277, 546, 547, 22, 548, 183, 549, 550, 538, 551, 371, 372, 373, 374, 61, 185, 375, 376, 377, 378, 184, 379, 380, 381, 60, 382, 200, 79, 80, 2057, 2058, 2059, 2060, 2061, 2062, 2063, 2064, 2091, 2092, 2093, 2094, 2095, 2096, 2097, 2098, 2099, 2100, 2101, 2102, 2103, 2104, 2121, 2122, 2123, 2124, 2125, 2126, 2127, 2128, 2129, 2130, 2131, 2132, 2133] (by decide +kernel) (by decide +kernel)) (goodIn_sub (fun _ h => List.mem_append_left _ (List.mem_append_left _ (List.mem_append_left _ (List.mem_append_right _ h)))) (by decide +kernel))) (goodIn_sub (fun _ h => List.mem_append_right _ h) (by decide +kernel))
set_option maxRecDepth 20000 in
theorem gL_law_L_stepsPerMinute : GoodIn wsL_law (va_wsS RL 273 yL_stepsPerMinute wsL_stepsPerMinute) := goodIn_app (goodIn_of _ (by decide +kernel)) ggL_law_L_stepsPerMinute
set_option maxRecDepth 20000 in
theorem ggL_law_X10_stepsPerMinute : GoodIn wsL_law wsX10_stepsPerMinute := goodIn_ca (goodIn_r _ [1281, 1079, 1080, 1081, 5, 1082, 695, 700, 701, 702, 703, 146, 959, 960, 961, 962, 122, 963, 550, 538, 551, 878, 879, 880, 881, 882, 883, 884, 885, 886, 887, 888, 889, 697, 698, 699, 2065, 2066, 2067, 2068, 2069, 2070, 2071, 2072, 2073, 2074, 2075, 2076, 2077, 2078, 2079, 2080, 2081, 2082, 2083, 2084, 2085, 2086] (by decide +kernel) (by decide +kernel)) (goodIn_sub (fun _ h => List.mem_append_left _ (List.mem_append_left _ (List.mem_append_left _ (List.mem_append_right _ h)))) (by decide +kernel))
set_option maxRecDepth 20000 in
theorem gL_law_X10_stepsPerMinute : GoodIn wsL_law (wsV RL 275 RX10 yX10_stepsPerMinute wsX10_stepsPerMinute) := goodIn_app (goodIn_of _ (by decide +kernel)) ggL_law_X10_stepsPerMinute
set_option maxRecDepth 20000 in
theorem ggL_law_L_walkerTile : GoodIn wsL_law wsL_walkerTile := goodIn_ca (goodIn_ca (goodIn_r _ [1284, 1058, 1285, 1286, 1287, 2, 1288, 23, 1289, 1290, 1065, 1066, 1067, 1068, 1069, 1070, 34, 2057, 2058, 2059, 2060, 2061, 2062, 2063, 2064, 2091, 2092, 2093, 2094, 2095, 2096, 2097, 2098, 2099, 2100, 2101, 2102, 2103, 2104, 2134, 2135, 2136, 2137, 2138, 2139, 2140, 2141, 2142] (by decide +kernel) (by decide +kernel)) (goodIn_sub (fun _ h => List.mem_append_left _ (List.mem_append_left _ (List.mem_append_left _ (List.mem_append_right _ h)))) (by decide +kernel))) (goodIn_sub (fun _ h => List.mem_append_right _ h) (by decide +kernel))
set_option maxRecDepth 20000 in
theorem gL_law_L_walkerTile : GoodIn wsL_law (va_wsS RL 276 yL_walkerTile wsL_walkerTile) := goodIn_app (goodIn_of _ (by decide +kernel)) ggL_law_L_walkerTile
set_option maxRecDepth 20000 in
theorem ggL_law_X10_walkerTile : GoodIn wsL_law wsX10_walkerTile := goodIn_ca (goodIn_r _ [1294, 1075, 1076, 1077, 5, 1078, 122, 1079, 1080, 1081, 1082, 695, 700, 701, 702, 703, 146, 2065, 2066, 2067, 2068, 2069, 2070, 2071, 2072, 2073, 2074, 2075, 2076, 2077, 2078, 2079, 2080, 2081, 2082, 2083, 2084, 2085, 2086] (by decide +kernel) (by decide +kernel)) (goodIn_sub (fun _ h => List.mem_append_left _ (List.mem_append_left _ (List.mem_append_left _ (List.mem_append_right _ h)))) (by decide +kernel))
set_option maxRecDepth 20000 in
theorem gL_law_X10_walkerTile : GoodIn wsL_law (wsV RL 278 RX10 yX10_walkerTile wsX10_walkerTile) := goodIn_app (goodIn_of _ (by decide +kernel)) ggL_law_X10_walkerTile
set_option maxRecDepth 20000 in
theorem ggL_law_L_facesRight : GoodIn wsL_law wsL_facesRight := goodIn_ca (goodIn_ca (goodIn_r _ [1297, 1058, 1298, 1299, 1300, 2, 1301, 23, 1289, 1302, 1065, 1066, 1067, 1068, 1069, 1070, 34, 2057, 2058, 2059, 2060, 2061, 2062, 2063, 2064, 2091, 2092, 2093, 2094, 2095, 2096, 2097, 2098, 2099, 2100, 2101, 2102, 2103, 2104, 2134, 2135, 2136, 2137, 2138, 2139, 2140, 2141, 2142] (by decide +kernel) (by decide +kernel)) (goodIn_sub (fun _ h => List.mem_append_left _ (List.mem_append_left _ (List.mem_append_left _ (List.mem_append_right _ h)))) (by decide +kernel))) (goodIn_sub (fun _ h => List.mem_append_right _ h) (by decide +kernel))
set_option maxRecDepth 20000 in
theorem gL_law_L_facesRight : GoodIn wsL_law (va_wsS RL 279 yL_facesRight wsL_facesRight) := goodIn_app (goodIn_of _ (by decide +kernel)) ggL_law_L_facesRight
set_option maxRecDepth 20000 in
theorem ggL_law_X10_facesRight : GoodIn wsL_law wsX10_facesRight := goodIn_ca (goodIn_r _ [1306, 1075, 1076, 1077, 5, 1078, 122, 1079, 1080, 1081, 1082, 695, 700, 701, 702, 703, 146, 2065, 2066, 2067, 2068, 2069, 2070, 2071, 2072, 2073, 2074, 2075, 2076, 2077, 2078, 2079, 2080, 2081, 2082, 2083, 2084, 2085, 2086] (by decide +kernel) (by decide +kernel)) (goodIn_sub (fun _ h => List.mem_append_left _ (List.mem_append_left _ (List.mem_append_left _ (List.mem_append_right _ h)))) (by decide +kernel))
set_option maxRecDepth 20000 in
theorem gL_law_X10_facesRight : GoodIn wsL_law (wsV RL 281 RX10 yX10_facesRight wsX10_facesRight) := goodIn_app (goodIn_of _ (by decide +kernel)) ggL_law_X10_facesRight
set_option maxRecDepth 20000 in
theorem ggL_law_L_restRemaining : GoodIn wsL_law wsL_restRemaining := goodIn_ca (goodIn_ca (goodIn_r _ [1309, 1058, 1310, 1311, 1312, 2, 1313, 23, 1289, 1314, 1065, 1066, 1067, 1068, 1069, 1070, 34, 2057, 2058, 2059, 2060, 2061, 2062, 2063, 2064, 2091, 2092, 2093, 2094, 2095, 2096, 2097, 2098, 2099, 2100, 2101, 2102, 2103, 2104, 2134, 2135, 2136, 2137, 2138, 2139, 2140, 2141, 2142] (by decide +kernel) (by decide +kernel)) (goodIn_sub (fun _ h => List.mem_append_left _ (List.mem_append_left _ (List.mem_append_left _ (List.mem_append_right _ h)))) (by decide +kernel))) (goodIn_sub (fun _ h => List.mem_append_right _ h) (by decide +kernel))
set_option maxRecDepth 20000 in
theorem gL_law_L_restRemaining : GoodIn wsL_law (va_wsS RL 282 yL_restRemaining wsL_restRemaining) := goodIn_app (goodIn_of _ (by decide +kernel)) ggL_law_L_restRemaining
set_option maxRecDepth 20000 in
theorem ggL_law_X10_restRemaining : GoodIn wsL_law wsX10_restRemaining := goodIn_ca (goodIn_r _ [1318, 1075, 1076, 1077, 5, 1078, 122, 1079, 1080, 1081, 1082, 695, 700, 701, 702, 703, 146, 2065, 2066, 2067, 2068, 2069, 2070, 2071, 2072, 2073, 2074, 2075, 2076, 2077, 2078, 2079, 2080, 2081, 2082, 2083, 2084, 2085, 2086] (by decide +kernel) (by decide +kernel)) (goodIn_sub (fun _ h => List.mem_append_left _ (List.mem_append_left _ (List.mem_append_left _ (List.mem_append_right _ h)))) (by decide +kernel))
set_option maxRecDepth 20000 in
theorem gL_law_X10_restRemaining : GoodIn wsL_law (wsV RL 284 RX10 yX10_restRemaining wsX10_restRemaining) := goodIn_app (goodIn_of _ (by decide +kernel)) ggL_law_X10_restRemaining
set_option maxRecDepth 20000 in
theorem ggL_law_L_stepsSincePause : GoodIn wsL_law wsL_stepsSincePause := goodIn_ca (goodIn_ca (goodIn_r _ [1321, 1058, 1322, 1323, 1324, 2, 1325, 23, 1289, 1326, 1065, 1066, 1067, 1068, 1069, 1070, 34, 2057, 2058, 2059, 2060, 2061, 2062, 2063, 2064, 2091, 2092, 2093, 2094, 2095, 2096, 2097, 2098, 2099, 2100, 2101, 2102, 2103, 2104, 2134, 2135, 2136, 2137, 2138, 2139, 2140, 2141, 2142] (by decide +kernel) (by decide +kernel)) (goodIn_sub (fun _ h => List.mem_append_left _ (List.mem_append_left _ (List.mem_append_left _ (List.mem_append_right _ h)))) (by decide +kernel))) (goodIn_sub (fun _ h => List.mem_append_right _ h) (by decide +kernel))
set_option maxRecDepth 20000 in
theorem gL_law_L_stepsSincePause : GoodIn wsL_law (va_wsS RL 285 yL_stepsSincePause wsL_stepsSincePause) := goodIn_app (goodIn_of _ (by decide +kernel)) ggL_law_L_stepsSincePause
set_option maxRecDepth 20000 in
theorem ggL_law_X10_stepsSincePause : GoodIn wsL_law wsX10_stepsSincePause := goodIn_ca (goodIn_r _ [1330, 1075, 1076, 1077, 5, 1078, 122, 1079, 1080, 1081, 1082, 695, 700, 701, 702, 703, 146, 2065, 2066, 2067, 2068, 2069, 2070, 2071, 2072, 2073, 2074, 2075, 2076, 2077, 2078, 2079, 2080, 2081, 2082, 2083, 2084, 2085, 2086] (by decide +kernel) (by decide +kernel)) (goodIn_sub (fun _ h => List.mem_append_left _ (List.mem_append_left _ (List.mem_append_left _ (List.mem_append_right _ h)))) (by decide +kernel))
set_option maxRecDepth 20000 in
theorem gL_law_X10_stepsSincePause : GoodIn wsL_law (wsV RL 287 RX10 yX10_stepsSincePause wsX10_stepsSincePause) := goodIn_app (goodIn_of _ (by decide +kernel)) ggL_law_X10_stepsSincePause
set_option maxRecDepth 20000 in
theorem ggL_law_L_totalSteps : GoodIn wsL_law wsL_totalSteps := goodIn_ca (goodIn_ca (goodIn_r _ [1333, 1058, 1334, 1335, 1336, 2, 1337, 23, 1289, 1338, 1065, 1066, 1067, 1068, 1069, 1070, 34, 2057, 2058, 2059, 2060, 2061, 2062, 2063, 2064, 2091, 2092, 2093, 2094, 2095, 2096, 2097, 2098, 2099, 2100, 2101, 2102, 2103, 2104, 2134, 2135, 2136, 2137, 2138, 2139, 2140, 2141, 2142] (by decide +kernel) (by decide +kernel)) (goodIn_sub (fun _ h => List.mem_append_left _ (List.mem_append_left _ (List.mem_append_left _ (List.mem_append_right _ h)))) (by decide +kernel))) (goodIn_sub (fun _ h => List.mem_append_right _ h) (by decide +kernel))
set_option maxRecDepth 20000 in
theorem gL_law_L_totalSteps : GoodIn wsL_law (va_wsS RL 288 yL_totalSteps wsL_totalSteps) := goodIn_app (goodIn_of _ (by decide +kernel)) ggL_law_L_totalSteps
set_option maxRecDepth 20000 in
theorem ggL_law_X10_totalSteps : GoodIn wsL_law wsX10_totalSteps := goodIn_ca (goodIn_r _ [1342, 1075, 1076, 1077, 5, 1078, 122, 1079, 1080, 1081, 1082, 695, 700, 701, 702, 703, 146, 2065, 2066, 2067, 2068, 2069, 2070, 2071, 2072, 2073, 2074, 2075, 2076, 2077, 2078, 2079, 2080, 2081, 2082, 2083, 2084, 2085, 2086] (by decide +kernel) (by decide +kernel)) (goodIn_sub (fun _ h => List.mem_append_left _ (List.mem_append_left _ (List.mem_append_left _ (List.mem_append_right _ h)))) (by decide +kernel))
set_option maxRecDepth 20000 in
theorem gL_law_X10_totalSteps : GoodIn wsL_law (wsV RL 290 RX10 yX10_totalSteps wsX10_totalSteps) := goodIn_app (goodIn_of _ (by decide +kernel)) ggL_law_X10_totalSteps
set_option maxRecDepth 20000 in
theorem ggL_law_L_stepsTonight : GoodIn wsL_law wsL_stepsTonight := goodIn_ca (goodIn_ca (goodIn_r _ [1345, 1058, 1346, 1347, 1348, 2, 1349, 23, 1289, 1350, 1065, 1066, 1067, 1068, 1069, 1070, 34, 2057, 2058, 2059, 2060, 2061, 2062, 2063, 2064, 2091, 2092, 2093, 2094, 2095, 2096, 2097, 2098, 2099, 2100, 2101, 2102, 2103, 2104, 2134, 2135, 2136, 2137, 2138, 2139, 2140, 2141, 2142] (by decide +kernel) (by decide +kernel)) (goodIn_sub (fun _ h => List.mem_append_left _ (List.mem_append_left _ (List.mem_append_left _ (List.mem_append_right _ h)))) (by decide +kernel))) (goodIn_sub (fun _ h => List.mem_append_right _ h) (by decide +kernel))
set_option maxRecDepth 20000 in
theorem gL_law_L_stepsTonight : GoodIn wsL_law (va_wsS RL 291 yL_stepsTonight wsL_stepsTonight) := goodIn_app (goodIn_of _ (by decide +kernel)) ggL_law_L_stepsTonight
set_option maxRecDepth 20000 in
theorem ggL_law_X10_stepsTonight : GoodIn wsL_law wsX10_stepsTonight := goodIn_ca (goodIn_r _ [1354, 1075, 1076, 1077, 5, 1078, 122, 1079, 1080, 1081, 1082, 695, 700, 701, 702, 703, 146, 2065, 2066, 2067, 2068, 2069, 2070, 2071, 2072, 2073, 2074, 2075, 2076, 2077, 2078, 2079, 2080, 2081, 2082, 2083, 2084, 2085, 2086] (by decide +kernel) (by decide +kernel)) (goodIn_sub (fun _ h => List.mem_append_left _ (List.mem_append_left _ (List.mem_append_left _ (List.mem_append_right _ h)))) (by decide +kernel))
set_option maxRecDepth 20000 in
theorem gL_law_X10_stepsTonight : GoodIn wsL_law (wsV RL 293 RX10 yX10_stepsTonight wsX10_stepsTonight) := goodIn_app (goodIn_of _ (by decide +kernel)) ggL_law_X10_stepsTonight
set_option maxRecDepth 20000 in
theorem ggL_law_L_turnCount : GoodIn wsL_law wsL_turnCount := goodIn_ca (goodIn_ca (goodIn_r _ [1357, 1058, 1358, 1359, 1360, 2, 1361, 23, 1289, 1362, 1065, 1066, 1067, 1068, 1069, 1070, 34, 2057, 2058, 2059, 2060, 2061, 2062, 2063, 2064, 2091, 2092, 2093, 2094, 2095, 2096, 2097, 2098, 2099, 2100, 2101, 2102, 2103, 2104, 2134, 2135, 2136, 2137, 2138, 2139, 2140, 2141, 2142] (by decide +kernel) (by decide +kernel)) (goodIn_sub (fun _ h => List.mem_append_left _ (List.mem_append_left _ (List.mem_append_left _ (List.mem_append_right _ h)))) (by decide +kernel))) (goodIn_sub (fun _ h => List.mem_append_right _ h) (by decide +kernel))
set_option maxRecDepth 20000 in
theorem gL_law_L_turnCount : GoodIn wsL_law (va_wsS RL 294 yL_turnCount wsL_turnCount) := goodIn_app (goodIn_of _ (by decide +kernel)) ggL_law_L_turnCount
set_option maxRecDepth 20000 in
theorem ggL_law_X10_turnCount : GoodIn wsL_law wsX10_turnCount := goodIn_ca (goodIn_r _ [1366, 1075, 1076, 1077, 5, 1078, 122, 1079, 1080, 1081, 1082, 695, 700, 701, 702, 703, 146, 2065, 2066, 2067, 2068, 2069, 2070, 2071, 2072, 2073, 2074, 2075, 2076, 2077, 2078, 2079, 2080, 2081, 2082, 2083, 2084, 2085, 2086] (by decide +kernel) (by decide +kernel)) (goodIn_sub (fun _ h => List.mem_append_left _ (List.mem_append_left _ (List.mem_append_left _ (List.mem_append_right _ h)))) (by decide +kernel))
set_option maxRecDepth 20000 in
theorem gL_law_X10_turnCount : GoodIn wsL_law (wsV RL 296 RX10 yX10_turnCount wsX10_turnCount) := goodIn_app (goodIn_of _ (by decide +kernel)) ggL_law_X10_turnCount
set_option maxRecDepth 20000 in
theorem ggL_law_L_fallCount : GoodIn wsL_law wsL_fallCount := goodIn_ca (goodIn_ca (goodIn_r _ [1369, 1058, 1370, 1371, 1372, 2, 1373, 23, 1289, 1374, 1065, 1066, 1067, 1068, 1069, 1070, 34, 2057, 2058, 2059, 2060, 2061, 2062, 2063, 2064, 2091, 2092, 2093, 2094, 2095, 2096, 2097, 2098, 2099, 2100, 2101, 2102, 2103, 2104, 2134, 2135, 2136, 2137, 2138, 2139, 2140, 2141, 2142] (by decide +kernel) (by decide +kernel)) (goodIn_sub (fun _ h => List.mem_append_left _ (List.mem_append_left _ (List.mem_append_left _ (List.mem_append_right _ h)))) (by decide +kernel))) (goodIn_sub (fun _ h => List.mem_append_right _ h) (by decide +kernel))
set_option maxRecDepth 20000 in
theorem gL_law_L_fallCount : GoodIn wsL_law (va_wsS RL 297 yL_fallCount wsL_fallCount) := goodIn_app (goodIn_of _ (by decide +kernel)) ggL_law_L_fallCount
set_option maxRecDepth 20000 in
theorem ggL_law_X10_fallCount : GoodIn wsL_law wsX10_fallCount := goodIn_ca (goodIn_r _ [1378, 1075, 1076, 1077, 5, 1078, 122, 1079, 1080, 1081, 1082, 695, 700, 701, 702, 703, 146, 2065, 2066, 2067, 2068, 2069, 2070, 2071, 2072, 2073, 2074, 2075, 2076, 2077, 2078, 2079, 2080, 2081, 2082, 2083, 2084, 2085, 2086] (by decide +kernel) (by decide +kernel)) (goodIn_sub (fun _ h => List.mem_append_left _ (List.mem_append_left _ (List.mem_append_left _ (List.mem_append_right _ h)))) (by decide +kernel))
set_option maxRecDepth 20000 in
theorem gL_law_X10_fallCount : GoodIn wsL_law (wsV RL 299 RX10 yX10_fallCount wsX10_fallCount) := goodIn_app (goodIn_of _ (by decide +kernel)) ggL_law_X10_fallCount
set_option maxRecDepth 20000 in
theorem ggL_law_L_blockReason : GoodIn wsL_law wsL_blockReason := goodIn_ca (goodIn_ca (goodIn_r _ [1381, 1058, 1382, 1383, 1384, 2, 1385, 23, 1065, 1066, 1067, 1068, 1069, 1070, 34, 1386, 1387, 1388, 22, 1389, 65, 368, 510, 544, 70, 72, 371, 372, 373, 374, 61, 185, 375, 376, 377, 378, 184, 379, 380, 381, 60, 382, 200, 79, 80, 517, 518, 519, 520, 369, 430, 396, 397, 398, 399, 232, 233, 2057, 2058, 2059, 2060, 2061, 2062, 2063, 2064, 2091, 2092, 2093, 2094, 2095, 2096, 2097, 2098, 2099, 2100, 2101, 2102, 2103, 2104, 2134, 2135, 2136, 2137, 2138, 2139, 2140, 2141, 2142, 2121, 2122, 2123, 2124, 2125, 2126, 2127, 2128, 2129, 2130, 2131, 2132, 2133] (by decide +kernel) (by decide +kernel)) (goodIn_sub (fun _ h => List.mem_append_left _ (List.mem_append_left _ (List.mem_append_left _ (List.mem_append_right _ h)))) (by decide +kernel))) (goodIn_sub (fun _ h => List.mem_append_right _ h) (by decide +kernel))
set_option maxRecDepth 20000 in
theorem gL_law_L_blockReason : GoodIn wsL_law (va_wsS RL 300 yL_blockReason wsL_blockReason) := goodIn_app (goodIn_of _ (by decide +kernel)) ggL_law_L_blockReason
set_option maxRecDepth 20000 in
theorem ggL_law_X10_blockReason : GoodIn wsL_law wsX10_blockReason := goodIn_ca (goodIn_r _ [1393, 1079, 1080, 1081, 5, 1082, 695, 700, 701, 702, 703, 146, 1394, 1395, 1396, 1397, 122, 878, 879, 880, 881, 882, 883, 884, 885, 886, 887, 888, 889, 697, 698, 699, 972, 973, 974, 975, 942, 943, 944, 945, 790, 791, 792, 793, 898, 899, 900, 901, 838, 839, 840, 841, 2065, 2066, 2067, 2068, 2069, 2070, 2071, 2072, 2073, 2074, 2075, 2076, 2077, 2078, 2079, 2080, 2081, 2082, 2083, 2084, 2085, 2086] (by decide +kernel) (by decide +kernel)) (goodIn_sub (fun _ h => List.mem_append_left _ (List.mem_append_left _ (List.mem_append_left _ (List.mem_append_right _ h)))) (by decide +kernel))
set_option maxRecDepth 20000 in
theorem gL_law_X10_blockReason : GoodIn wsL_law (wsV RL 302 RX10 yX10_blockReason wsX10_blockReason) := goodIn_app (goodIn_of _ (by decide +kernel)) ggL_law_X10_blockReason
set_option maxRecDepth 20000 in
theorem ggL_law_L_wear : GoodIn wsL_law wsL_wear := goodIn_ca (goodIn_ca (goodIn_ca (goodIn_r _ [1400, 1058, 1401, 1402, 1403, 2, 1404, 23, 1405, 1065, 1066, 1067, 1068, 1069, 1070, 34, 1174, 1175, 1176, 1177, 161, 162, 684, 448, 449, 22, 450, 61, 430, 369, 1210, 232, 233, 2057, 2058, 2059, 2060, 2061, 2062, 2063, 2064, 2091, 2092, 2093, 2094, 2095, 2096, 2097, 2098, 2099, 2100, 2101, 2102, 2103, 2104, 2121, 2122, 2123, 2124, 2125, 2126, 2127, 2128, 2129, 2130, 2131, 2132, 2133] (by decide +kernel) (by decide +kernel)) (goodIn_sub (fun _ h => List.mem_append_left _ (List.mem_append_left _ (List.mem_append_left _ (List.mem_append_right _ h)))) (by decide +kernel))) (goodIn_sub (fun _ h => List.mem_append_right _ h) (by decide +kernel))) (goodIn_sub (fun _ h => List.mem_append_left _ (List.mem_append_left _ (List.mem_append_right _ h))) (by decide +kernel))
set_option maxRecDepth 20000 in
theorem gL_law_L_wear : GoodIn wsL_law (va_wsS RL 303 yL_wear wsL_wear) := goodIn_app (goodIn_of _ (by decide +kernel)) ggL_law_L_wear
set_option maxRecDepth 20000 in
theorem ggL_law_X10_wear : GoodIn wsL_law wsX10_wear := goodIn_ca (goodIn_r _ [1409, 122, 1186, 1187, 1188, 5, 1189, 695, 1190, 1191, 1192, 1193, 790, 791, 792, 793, 697, 698, 699, 1194, 1195, 1196, 1197, 700, 701, 702, 703, 146, 2065, 2066, 2067, 2068, 2069, 2070, 2071, 2072, 2073, 2074, 2075, 2076, 2077, 2078, 2079, 2080, 2081, 2082, 2083, 2084, 2085, 2086] (by decide +kernel) (by decide +kernel)) (goodIn_sub (fun _ h => List.mem_append_left _ (List.mem_append_left _ (List.mem_append_left _ (List.mem_append_right _ h)))) (by decide +kernel))
set_option maxRecDepth 20000 in
theorem gL_law_X10_wear : GoodIn wsL_law (wsV RL 305 RX10 yX10_wear wsX10_wear) := goodIn_app (goodIn_of _ (by decide +kernel)) ggL_law_X10_wear
set_option maxRecDepth 20000 in
theorem ggL_law_L_catTile : GoodIn wsL_law wsL_catTile := goodIn_ca (goodIn_ca (goodIn_r _ [1412, 1058, 1413, 1414, 1415, 2, 1416, 23, 1417, 1065, 1066, 1067, 1068, 1069, 1070, 34, 2057, 2058, 2059, 2060, 2061, 2062, 2063, 2064, 2091, 2092, 2093, 2094, 2095, 2096, 2097, 2098, 2099, 2100, 2101, 2102, 2103, 2104] (by decide +kernel) (by decide +kernel)) (goodIn_sub (fun _ h => List.mem_append_left _ (List.mem_append_left _ (List.mem_append_left _ (List.mem_append_right _ h)))) (by decide +kernel))) (goodIn_sub (fun _ h => List.mem_append_right _ h) (by decide +kernel))
set_option maxRecDepth 20000 in
theorem gL_law_L_catTile : GoodIn wsL_law (va_wsS RL 306 yL_catTile wsL_catTile) := goodIn_app (goodIn_of _ (by decide +kernel)) ggL_law_L_catTile
set_option maxRecDepth 20000 in
theorem ggL_law_X10_catTile : GoodIn wsL_law wsX10_catTile := goodIn_ca (goodIn_r _ [1421, 1075, 1076, 1077, 5, 1078, 122, 1079, 1080, 1081, 1082, 695, 700, 701, 702, 703, 146, 2065, 2066, 2067, 2068, 2069, 2070, 2071, 2072, 2073, 2074, 2075, 2076, 2077, 2078, 2079, 2080, 2081, 2082, 2083, 2084, 2085, 2086] (by decide +kernel) (by decide +kernel)) (goodIn_sub (fun _ h => List.mem_append_left _ (List.mem_append_left _ (List.mem_append_left _ (List.mem_append_right _ h)))) (by decide +kernel))
set_option maxRecDepth 20000 in
theorem gL_law_X10_catTile : GoodIn wsL_law (wsV RL 308 RX10 yX10_catTile wsX10_catTile) := goodIn_app (goodIn_of _ (by decide +kernel)) ggL_law_X10_catTile
set_option maxRecDepth 20000 in
theorem ggL_law_L_hasRug : GoodIn wsL_law wsL_hasRug := goodIn_ca (goodIn_ca (goodIn_ca (goodIn_r _ [1424, 1058, 1425, 1426, 1427, 2, 1428, 23, 1429, 1065, 1066, 1067, 1068, 1069, 1070, 34, 1174, 1175, 1176, 1177, 161, 162, 684, 448, 449, 22, 450, 61, 430, 369, 1210, 232, 233, 2057, 2058, 2059, 2060, 2061, 2062, 2063, 2064, 2091, 2092, 2093, 2094, 2095, 2096, 2097, 2098, 2099, 2100, 2101, 2102, 2103, 2104, 2121, 2122, 2123, 2124, 2125, 2126, 2127, 2128, 2129, 2130, 2131, 2132, 2133] (by decide +kernel) (by decide +kernel)) (goodIn_sub (fun _ h => List.mem_append_left _ (List.mem_append_left _ (List.mem_append_left _ (List.mem_append_right _ h)))) (by decide +kernel))) (goodIn_sub (fun _ h => List.mem_append_right _ h) (by decide +kernel))) (goodIn_sub (fun _ h => List.mem_append_left _ (List.mem_append_left _ (List.mem_append_right _ h))) (by decide +kernel))
set_option maxRecDepth 20000 in
theorem gL_law_L_hasRug : GoodIn wsL_law (va_wsS RL 309 yL_hasRug wsL_hasRug) := goodIn_app (goodIn_of _ (by decide +kernel)) ggL_law_L_hasRug
set_option maxRecDepth 20000 in
theorem ggL_law_X10_hasRug : GoodIn wsL_law wsX10_hasRug := goodIn_ca (goodIn_r _ [1433, 122, 1186, 1187, 1188, 5, 1189, 695, 1190, 1191, 1192, 1193, 790, 791, 792, 793, 697, 698, 699, 1194, 1195, 1196, 1197, 700, 701, 702, 703, 146, 2065, 2066, 2067, 2068, 2069, 2070, 2071, 2072, 2073, 2074, 2075, 2076, 2077, 2078, 2079, 2080, 2081, 2082, 2083, 2084, 2085, 2086] (by decide +kernel) (by decide +kernel)) (goodIn_sub (fun _ h => List.mem_append_left _ (List.mem_append_left _ (List.mem_append_left _ (List.mem_append_right _ h)))) (by decide +kernel))
set_option maxRecDepth 20000 in
theorem gL_law_X10_hasRug : GoodIn wsL_law (wsV RL 311 RX10 yX10_hasRug wsX10_hasRug) := goodIn_app (goodIn_of _ (by decide +kernel)) ggL_law_X10_hasRug
set_option maxRecDepth 20000 in
theorem ggL_law_L_slideCount : GoodIn wsL_law wsL_slideCount := goodIn_ca (goodIn_ca (goodIn_r _ [1436, 1058, 1437, 1438, 1439, 2, 1440, 23, 1441, 1065, 1066, 1067, 1068, 1069, 1070, 34, 2057, 2058, 2059, 2060, 2061, 2062, 2063, 2064, 2091, 2092, 2093, 2094, 2095, 2096, 2097, 2098, 2099, 2100, 2101, 2102, 2103, 2104] (by decide +kernel) (by decide +kernel)) (goodIn_sub (fun _ h => List.mem_append_left _ (List.mem_append_left _ (List.mem_append_left _ (List.mem_append_right _ h)))) (by decide +kernel))) (goodIn_sub (fun _ h => List.mem_append_right _ h) (by decide +kernel))
set_option maxRecDepth 20000 in
theorem gL_law_L_slideCount : GoodIn wsL_law (va_wsS RL 312 yL_slideCount wsL_slideCount) := goodIn_app (goodIn_of _ (by decide +kernel)) ggL_law_L_slideCount
set_option maxRecDepth 20000 in
theorem ggL_law_X10_slideCount : GoodIn wsL_law wsX10_slideCount := goodIn_ca (goodIn_r _ [1445, 1075, 1076, 1077, 5, 1078, 122, 1079, 1080, 1081, 1082, 695, 700, 701, 702, 703, 146, 2065, 2066, 2067, 2068, 2069, 2070, 2071, 2072, 2073, 2074, 2075, 2076, 2077, 2078, 2079, 2080, 2081, 2082, 2083, 2084, 2085, 2086] (by decide +kernel) (by decide +kernel)) (goodIn_sub (fun _ h => List.mem_append_left _ (List.mem_append_left _ (List.mem_append_left _ (List.mem_append_right _ h)))) (by decide +kernel))
set_option maxRecDepth 20000 in
theorem gL_law_X10_slideCount : GoodIn wsL_law (wsV RL 314 RX10 yX10_slideCount wsX10_slideCount) := goodIn_app (goodIn_of _ (by decide +kernel)) ggL_law_X10_slideCount
set_option maxRecDepth 20000 in
theorem ggL_law_L_hasBowl : GoodIn wsL_law wsL_hasBowl := goodIn_ca (goodIn_ca (goodIn_ca (goodIn_r _ [1448, 1058, 1449, 1450, 1451, 2, 1452, 23, 1453, 1065, 1066, 1067, 1068, 1069, 1070, 34, 1174, 1175, 1176, 1177, 161, 162, 684, 448, 449, 22, 450, 61, 430, 369, 1210, 232, 233, 2057, 2058, 2059, 2060, 2061, 2062, 2063, 2064, 2091, 2092, 2093, 2094, 2095, 2096, 2097, 2098, 2099, 2100, 2101, 2102, 2103, 2104, 2121, 2122, 2123, 2124, 2125, 2126, 2127, 2128, 2129, 2130, 2131, 2132, 2133] (by decide +kernel) (by decide +kernel)) (goodIn_sub (fun _ h => List.mem_append_left _ (List.mem_append_left _ (List.mem_append_left _ (List.mem_append_right _ h)))) (by decide +kernel))) (goodIn_sub (fun _ h => List.mem_append_right _ h) (by decide +kernel))) (goodIn_sub (fun _ h => List.mem_append_left _ (List.mem_append_left _ (List.mem_append_right _ h))) (by decide +kernel))
set_option maxRecDepth 20000 in
theorem gL_law_L_hasBowl : GoodIn wsL_law (va_wsS RL 315 yL_hasBowl wsL_hasBowl) := goodIn_app (goodIn_of _ (by decide +kernel)) ggL_law_L_hasBowl
set_option maxRecDepth 20000 in
theorem ggL_law_X10_hasBowl : GoodIn wsL_law wsX10_hasBowl := goodIn_ca (goodIn_r _ [1457, 122, 1186, 1187, 1188, 5, 1189, 695, 1190, 1191, 1192, 1193, 790, 791, 792, 793, 697, 698, 699, 1194, 1195, 1196, 1197, 700, 701, 702, 703, 146, 2065, 2066, 2067, 2068, 2069, 2070, 2071, 2072, 2073, 2074, 2075, 2076, 2077, 2078, 2079, 2080, 2081, 2082, 2083, 2084, 2085, 2086] (by decide +kernel) (by decide +kernel)) (goodIn_sub (fun _ h => List.mem_append_left _ (List.mem_append_left _ (List.mem_append_left _ (List.mem_append_right _ h)))) (by decide +kernel))
set_option maxRecDepth 20000 in
theorem gL_law_X10_hasBowl : GoodIn wsL_law (wsV RL 317 RX10 yX10_hasBowl wsX10_hasBowl) := goodIn_app (goodIn_of _ (by decide +kernel)) ggL_law_X10_hasBowl
set_option maxRecDepth 20000 in
theorem ggL_law_L_spillTime : GoodIn wsL_law wsL_spillTime := goodIn_ca (goodIn_ca (goodIn_ca (goodIn_r _ [1460, 1058, 1461, 1462, 1463, 2, 1464, 23, 1465, 1065, 1066, 1067, 1068, 1069, 1070, 34, 1174, 1175, 1176, 1177, 161, 162, 684, 448, 449, 22, 450, 61, 430, 369, 1210, 232, 233, 2057, 2058, 2059, 2060, 2061, 2062, 2063, 2064, 2091, 2092, 2093, 2094, 2095, 2096, 2097, 2098, 2099, 2100, 2101, 2102, 2103, 2104, 2121, 2122, 2123, 2124, 2125, 2126, 2127, 2128, 2129, 2130, 2131, 2132, 2133] (by decide +kernel) (by decide +kernel)) (goodIn_sub (fun _ h => List.mem_append_left _ (List.mem_append_left _ (List.mem_append_left _ (List.mem_append_right _ h)))) (by decide +kernel))) (goodIn_sub (fun _ h => List.mem_append_right _ h) (by decide +kernel))) (goodIn_sub (fun _ h => List.mem_append_left _ (List.mem_append_left _ (List.mem_append_right _ h))) (by decide +kernel))
set_option maxRecDepth 20000 in
theorem gL_law_L_spillTime : GoodIn wsL_law (va_wsS RL 318 yL_spillTime wsL_spillTime) := goodIn_app (goodIn_of _ (by decide +kernel)) ggL_law_L_spillTime
set_option maxRecDepth 20000 in
theorem ggL_law_X10_spillTime : GoodIn wsL_law wsX10_spillTime := goodIn_ca (goodIn_r _ [1469, 122, 1186, 1187, 1188, 5, 1189, 695, 1190, 1191, 1192, 1193, 790, 791, 792, 793, 697, 698, 699, 1194, 1195, 1196, 1197, 700, 701, 702, 703, 146, 2065, 2066, 2067, 2068, 2069, 2070, 2071, 2072, 2073, 2074, 2075, 2076, 2077, 2078, 2079, 2080, 2081, 2082, 2083, 2084, 2085, 2086] (by decide +kernel) (by decide +kernel)) (goodIn_sub (fun _ h => List.mem_append_left _ (List.mem_append_left _ (List.mem_append_left _ (List.mem_append_right _ h)))) (by decide +kernel))
set_option maxRecDepth 20000 in
theorem gL_law_X10_spillTime : GoodIn wsL_law (wsV RL 320 RX10 yX10_spillTime wsX10_spillTime) := goodIn_app (goodIn_of _ (by decide +kernel)) ggL_law_X10_spillTime
set_option maxRecDepth 20000 in
theorem ggL_law_L_spillCount : GoodIn wsL_law wsL_spillCount := goodIn_ca (goodIn_ca (goodIn_r _ [1472, 1058, 1473, 1474, 1475, 2, 1476, 23, 1465, 1065, 1066, 1067, 1068, 1069, 1070, 34, 1477, 496, 497, 2057, 2058, 2059, 2060, 2061, 2062, 2063, 2064, 2091, 2092, 2093, 2094, 2095, 2096, 2097, 2098, 2099, 2100, 2101, 2102, 2103, 2104] (by decide +kernel) (by decide +kernel)) (goodIn_sub (fun _ h => List.mem_append_left _ (List.mem_append_left _ (List.mem_append_left _ (List.mem_append_right _ h)))) (by decide +kernel))) (goodIn_sub (fun _ h => List.mem_append_right _ h) (by decide +kernel))
set_option maxRecDepth 20000 in
theorem gL_law_L_spillCount : GoodIn wsL_law (va_wsS RL 321 yL_spillCount wsL_spillCount) := goodIn_app (goodIn_of _ (by decide +kernel)) ggL_law_L_spillCount
set_option maxRecDepth 20000 in
theorem ggL_law_X10_spillCount : GoodIn wsL_law wsX10_spillCount := goodIn_ca (goodIn_r _ [1481, 1079, 1080, 1081, 5, 1082, 695, 700, 701, 702, 703, 146, 790, 791, 792, 793, 122, 838, 839, 840, 841, 783, 784, 785, 2065, 2066, 2067, 2068, 2069, 2070, 2071, 2072, 2073, 2074, 2075, 2076, 2077, 2078, 2079, 2080, 2081, 2082, 2083, 2084, 2085, 2086] (by decide +kernel) (by decide +kernel)) (goodIn_sub (fun _ h => List.mem_append_left _ (List.mem_append_left _ (List.mem_append_left _ (List.mem_append_right _ h)))) (by decide +kernel))
set_option maxRecDepth 20000 in
theorem gL_law_X10_spillCount : GoodIn wsL_law (wsV RL 323 RX10 yX10_spillCount wsX10_spillCount) := goodIn_app (goodIn_of _ (by decide +kernel)) ggL_law_X10_spillCount
set_option maxRecDepth 20000 in
theorem ggL_law_L_recordCount : GoodIn wsL_law wsL_recordCount := goodIn_ca (goodIn_ca (goodIn_r _ [1484, 1058, 1485, 1486, 1487, 2, 1488, 23, 1489, 1490, 1065, 1066, 1067, 1068, 1069, 1070, 34, 2057, 2058, 2059, 2060, 2061, 2062, 2063, 2064, 2091, 2092, 2093, 2094, 2095, 2096, 2097, 2098, 2099, 2100, 2101, 2102, 2103, 2104, 2143, 2144, 2145] (by decide +kernel) (by decide +kernel)) (goodIn_sub (fun _ h => List.mem_append_left _ (List.mem_append_left _ (List.mem_append_left _ (List.mem_append_right _ h)))) (by decide +kernel))) (goodIn_sub (fun _ h => List.mem_append_right _ h) (by decide +kernel))
set_option maxRecDepth 20000 in
theorem gL_law_L_recordCount : GoodIn wsL_law (va_wsS RL 324 yL_recordCount wsL_recordCount) := goodIn_app (goodIn_of _ (by decide +kernel)) ggL_law_L_recordCount
set_option maxRecDepth 20000 in
theorem ggL_law_X10_recordCount : GoodIn wsL_law wsX10_recordCount := goodIn_ca (goodIn_r _ [1494, 1075, 1076, 1077, 5, 1078, 122, 1079, 1080, 1081, 1082, 695, 700, 701, 702, 703, 146, 2065, 2066, 2067, 2068, 2069, 2070, 2071, 2072, 2073, 2074, 2075, 2076, 2077, 2078, 2079, 2080, 2081, 2082, 2083, 2084, 2085, 2086] (by decide +kernel) (by decide +kernel)) (goodIn_sub (fun _ h => List.mem_append_left _ (List.mem_append_left _ (List.mem_append_left _ (List.mem_append_right _ h)))) (by decide +kernel))
set_option maxRecDepth 20000 in
theorem gL_law_X10_recordCount : GoodIn wsL_law (wsV RL 326 RX10 yX10_recordCount wsX10_recordCount) := goodIn_app (goodIn_of _ (by decide +kernel)) ggL_law_X10_recordCount
set_option maxRecDepth 20000 in
theorem ggL_law_L_recordNight : GoodIn wsL_law wsL_recordNight := goodIn_ca (goodIn_ca (goodIn_ca (goodIn_r _ [1497, 1058, 1498, 1499, 1500, 2, 1501, 23, 1489, 1502, 1065, 1066, 1067, 1068, 1069, 1070, 34, 1503, 1504, 1505, 1506, 161, 162, 1490, 1210, 232, 233, 2057, 2058, 2059, 2060, 2061, 2062, 2063, 2064, 2091, 2092, 2093, 2094, 2095, 2096, 2097, 2098, 2099, 2100, 2101, 2102, 2103, 2104, 2143, 2144, 2145] (by decide +kernel) (by decide +kernel)) (goodIn_sub (fun _ h => List.mem_append_left _ (List.mem_append_left _ (List.mem_append_left _ (List.mem_append_right _ h)))) (by decide +kernel))) (goodIn_sub (fun _ h => List.mem_append_right _ h) (by decide +kernel))) (goodIn_sub (fun _ h => List.mem_append_left _ (List.mem_append_left _ (List.mem_append_right _ h))) (by decide +kernel))
set_option maxRecDepth 20000 in
theorem gL_law_L_recordNight : GoodIn wsL_law (va_wsS RL 327 yL_recordNight wsL_recordNight) := goodIn_app (goodIn_of _ (by decide +kernel)) ggL_law_L_recordNight
set_option maxRecDepth 20000 in
theorem ggL_law_X10_recordNight : GoodIn wsL_law wsX10_recordNight := goodIn_ca (goodIn_r _ [1510, 122, 1511, 1512, 1513, 5, 1514, 695, 697, 698, 699, 1194, 1195, 1196, 1197, 700, 701, 702, 703, 146, 2065, 2066, 2067, 2068, 2069, 2070, 2071, 2072, 2073, 2074, 2075, 2076, 2077, 2078, 2079, 2080, 2081, 2082, 2083, 2084, 2085, 2086] (by decide +kernel) (by decide +kernel)) (goodIn_sub (fun _ h => List.mem_append_left _ (List.mem_append_left _ (List.mem_append_left _ (List.mem_append_right _ h)))) (by decide +kernel))
set_option maxRecDepth 20000 in
theorem gL_law_X10_recordNight : GoodIn wsL_law (wsV RL 329 RX10 yX10_recordNight wsX10_recordNight) := goodIn_app (goodIn_of _ (by decide +kernel)) ggL_law_X10_recordNight
set_option maxRecDepth 20000 in
theorem ggL_law_L_recordSteps : GoodIn wsL_law wsL_recordSteps := goodIn_ca (goodIn_ca (goodIn_ca (goodIn_r _ [1517, 1058, 1518, 1519, 1520, 2, 1521, 23, 1489, 1522, 1065, 1066, 1067, 1068, 1069, 1070, 34, 1503, 1504, 1505, 1506, 161, 162, 1490, 1210, 232, 233, 2057, 2058, 2059, 2060, 2061, 2062, 2063, 2064, 2091, 2092, 2093, 2094, 2095, 2096, 2097, 2098, 2099, 2100, 2101, 2102, 2103, 2104, 2143, 2144, 2145] (by decide +kernel) (by decide +kernel)) (goodIn_sub (fun _ h => List.mem_append_left _ (List.mem_append_left _ (List.mem_append_left _ (List.mem_append_right _ h)))) (by decide +kernel))) (goodIn_sub (fun _ h => List.mem_append_right _ h) (by decide +kernel))) (goodIn_sub (fun _ h => List.mem_append_left _ (List.mem_append_left _ (List.mem_append_right _ h))) (by decide +kernel))
set_option maxRecDepth 20000 in
theorem gL_law_L_recordSteps : GoodIn wsL_law (va_wsS RL 330 yL_recordSteps wsL_recordSteps) := goodIn_app (goodIn_of _ (by decide +kernel)) ggL_law_L_recordSteps
set_option maxRecDepth 20000 in
theorem ggL_law_X10_recordSteps : GoodIn wsL_law wsX10_recordSteps := goodIn_ca (goodIn_r _ [1526, 122, 1511, 1512, 1513, 5, 1514, 695, 697, 698, 699, 1194, 1195, 1196, 1197, 700, 701, 702, 703, 146, 2065, 2066, 2067, 2068, 2069, 2070, 2071, 2072, 2073, 2074, 2075, 2076, 2077, 2078, 2079, 2080, 2081, 2082, 2083, 2084, 2085, 2086] (by decide +kernel) (by decide +kernel)) (goodIn_sub (fun _ h => List.mem_append_left _ (List.mem_append_left _ (List.mem_append_left _ (List.mem_append_right _ h)))) (by decide +kernel))
set_option maxRecDepth 20000 in
theorem gL_law_X10_recordSteps : GoodIn wsL_law (wsV RL 332 RX10 yX10_recordSteps wsX10_recordSteps) := goodIn_app (goodIn_of _ (by decide +kernel)) ggL_law_X10_recordSteps
set_option maxRecDepth 20000 in
theorem ggL_law_L_rankOf : GoodIn wsL_law wsL_rankOf := goodIn_ca (goodIn_ca (goodIn_ca (goodIn_r _ [1529, 1058, 1530, 1531, 1532, 2, 1533, 163, 164, 23, 1489, 1065, 1066, 1067, 1068, 1069, 1070, 34, 1534, 603, 604, 68, 605, 223, 89, 2057, 2058, 2059, 2060, 2061, 2062, 2063, 2064, 2091, 2092, 2093, 2094, 2095, 2096, 2097, 2098, 2099, 2100, 2101, 2102, 2103, 2104, 2143, 2144, 2145] (by decide +kernel) (by decide +kernel)) (goodIn_sub (fun _ h => List.mem_append_left _ (List.mem_append_left _ (List.mem_append_left _ (List.mem_append_right _ h)))) (by decide +kernel))) (goodIn_sub (fun _ h => List.mem_append_left _ (List.mem_append_right _ h)) (by decide +kernel))) (goodIn_sub (fun _ h => List.mem_append_right _ h) (by decide +kernel))
set_option maxRecDepth 20000 in
theorem gL_law_L_rankOf : GoodIn wsL_law (va_wsS RL 333 yL_rankOf wsL_rankOf) := goodIn_app (goodIn_of _ (by decide +kernel)) ggL_law_L_rankOf
set_option maxRecDepth 20000 in
theorem ggL_law_X10_rankOf : GoodIn wsL_law wsX10_rankOf := goodIn_ca (goodIn_r _ [1538, 695, 1194, 1195, 1196, 5, 1197, 700, 701, 702, 703, 146, 1001, 1002, 1003, 1004, 122, 2065, 2066, 2067, 2068, 2069, 2070, 2071, 2072, 2073, 2074, 2075, 2076, 2077, 2078, 2079, 2080, 2081, 2082, 2083, 2084, 2085, 2086] (by decide +kernel) (by decide +kernel)) (goodIn_sub (fun _ h => List.mem_append_left _ (List.mem_append_left _ (List.mem_append_left _ (List.mem_append_right _ h)))) (by decide +kernel))
set_option maxRecDepth 20000 in
theorem gL_law_X10_rankOf : GoodIn wsL_law (wsV RL 335 RX10 yX10_rankOf wsX10_rankOf) := goodIn_app (goodIn_of _ (by decide +kernel)) ggL_law_X10_rankOf
set_option maxRecDepth 20000 in
theorem ggL_law_L_imbalance : GoodIn wsL_law wsL_imbalance := goodIn_ca (goodIn_ca (goodIn_r _ [1541, 1058, 1542, 1543, 1544, 2, 1545, 23, 1405, 1289, 1338, 1350, 1065, 1066, 1067, 1068, 1069, 1070, 34, 1546, 1547, 1548, 2057, 2058, 2059, 2060, 2061, 2062, 2063, 2064, 2091, 2092, 2093, 2094, 2095, 2096, 2097, 2098, 2099, 2100, 2101, 2102, 2103, 2104, 2134, 2135, 2136, 2137, 2138, 2139, 2140, 2141, 2142] (by decide +kernel) (by decide +kernel)) (goodIn_sub (fun _ h => List.mem_append_left _ (List.mem_append_left _ (List.mem_append_left _ (List.mem_append_right _ h)))) (by decide +kernel))) (goodIn_sub (fun _ h => List.mem_append_right _ h) (by decide +kernel))
set_option maxRecDepth 20000 in
theorem gL_law_L_imbalance : GoodIn wsL_law (va_wsS RL 336 yL_imbalance wsL_imbalance) := goodIn_app (goodIn_of _ (by decide +kernel)) ggL_law_L_imbalance
set_option maxRecDepth 20000 in
theorem ggL_law_X10_imbalance : GoodIn wsL_law wsX10_imbalance := goodIn_ca (goodIn_r _ [1552, 122, 954, 537, 538, 539, 1079, 1080, 1081, 5, 1082, 695, 700, 701, 702, 703, 146, 1553, 1554, 1555, 1556, 790, 791, 792, 793, 783, 784, 785, 2065, 2066, 2067, 2068, 2069, 2070, 2071, 2072, 2073, 2074, 2075, 2076, 2077, 2078, 2079, 2080, 2081, 2082, 2083, 2084, 2085, 2086] (by decide +kernel) (by decide +kernel)) (goodIn_sub (fun _ h => List.mem_append_left _ (List.mem_append_left _ (List.mem_append_left _ (List.mem_append_right _ h)))) (by decide +kernel))
set_option maxRecDepth 20000 in
theorem gL_law_X10_imbalance : GoodIn wsL_law (wsV RL 338 RX10 yX10_imbalance wsX10_imbalance) := goodIn_app (goodIn_of _ (by decide +kernel)) ggL_law_X10_imbalance
set_option maxRecDepth 20000 in
theorem ggL_law_L_averageWear : GoodIn wsL_law wsL_averageWear := goodIn_ca (goodIn_ca (goodIn_r _ [1559, 1058, 1560, 1561, 1562, 2, 1563, 23, 1405, 1065, 1066, 1067, 1068, 1069, 1070, 34, 684, 448, 449, 22, 450, 61, 430, 369, 1546, 1547, 1548, 2057, 2058, 2059, 2060, 2061, 2062, 2063, 2064, 2091, 2092, 2093, 2094, 2095, 2096, 2097, 2098, 2099, 2100, 2101, 2102, 2103, 2104, 2121, 2122, 2123, 2124, 2125, 2126, 2127, 2128, 2129, 2130, 2131, 2132, 2133] (by decide +kernel) (by decide +kernel)) (goodIn_sub (fun _ h => List.mem_append_left _ (List.mem_append_left _ (List.mem_append_left _ (List.mem_append_right _ h)))) (by decide +kernel))) (goodIn_sub (fun _ h => List.mem_append_right _ h) (by decide +kernel))
set_option maxRecDepth 20000 in
theorem gL_law_L_averageWear : GoodIn wsL_law (va_wsS RL 339 yL_averageWear wsL_averageWear) := goodIn_app (goodIn_of _ (by decide +kernel)) ggL_law_L_averageWear
set_option maxRecDepth 20000 in
theorem ggL_law_X10_averageWear : GoodIn wsL_law wsX10_averageWear := goodIn_ca (goodIn_r _ [1567, 1079, 1080, 1081, 5, 1082, 695, 700, 701, 702, 703, 146, 1553, 1554, 1555, 1556, 122, 790, 791, 792, 793, 2065, 2066, 2067, 2068, 2069, 2070, 2071, 2072, 2073, 2074, 2075, 2076, 2077, 2078, 2079, 2080, 2081, 2082, 2083, 2084, 2085, 2086] (by decide +kernel) (by decide +kernel)) (goodIn_sub (fun _ h => List.mem_append_left _ (List.mem_append_left _ (List.mem_append_left _ (List.mem_append_right _ h)))) (by decide +kernel))
set_option maxRecDepth 20000 in
theorem gL_law_X10_averageWear : GoodIn wsL_law (wsV RL 342 RX10 yX10_averageWear wsX10_averageWear) := goodIn_app (goodIn_of _ (by decide +kernel)) ggL_law_X10_averageWear
set_option maxRecDepth 20000 in
theorem ggL_law_L_litShare : GoodIn wsL_law wsL_litShare := goodIn_ca (goodIn_ca (goodIn_r _ [1570, 1058, 1571, 1572, 1573, 2, 1574, 23, 1065, 1066, 1067, 1068, 1069, 1070, 34, 684, 448, 449, 22, 450, 61, 430, 369, 1178, 1179, 1180, 1181, 371, 372, 373, 374, 185, 375, 376, 377, 378, 184, 379, 380, 381, 60, 382, 200, 79, 80, 383, 384, 385, 386, 70, 387, 388, 389, 390, 391, 392, 393, 394, 395, 396, 397, 398, 399, 232, 233, 2057, 2058, 2059, 2060, 2061, 2062, 2063, 2064, 2091, 2092, 2093, 2094, 2095, 2096, 2097, 2098, 2099, 2100, 2101, 2102, 2103, 2104, 2121, 2122, 2123, 2124, 2125, 2126, 2127, 2128, 2129, 2130, 2131, 2132, 2133] (by decide +kernel) (by decide +kernel)) (goodIn_sub (fun _ h => List.mem_append_left _ (List.mem_append_left _ (List.mem_append_left _ (List.mem_append_right _ h)))) (by decide +kernel))) (goodIn_sub (fun _ h => List.mem_append_right _ h) (by decide +kernel))
set_option maxRecDepth 20000 in
theorem gL_law_L_litShare : GoodIn wsL_law (va_wsS RL 343 yL_litShare wsL_litShare) := goodIn_app (goodIn_of _ (by decide +kernel)) ggL_law_L_litShare
set_option maxRecDepth 20000 in
theorem ggL_law_X10_litShare : GoodIn wsL_law wsX10_litShare := goodIn_ca (goodIn_r _ [1578, 1079, 1080, 1081, 5, 1082, 695, 700, 701, 702, 703, 146, 1579, 1580, 1581, 1582, 790, 791, 792, 793, 122, 890, 891, 892, 893, 878, 879, 880, 881, 882, 883, 884, 885, 886, 887, 888, 889, 697, 698, 699, 894, 895, 896, 897, 898, 899, 900, 901, 783, 784, 785, 2065, 2066, 2067, 2068, 2069, 2070, 2071, 2072, 2073, 2074, 2075, 2076, 2077, 2078, 2079, 2080, 2081, 2082, 2083, 2084, 2085, 2086] (by decide +kernel) (by decide +kernel)) (goodIn_sub (fun _ h => List.mem_append_left _ (List.mem_append_left _ (List.mem_append_left _ (List.mem_append_right _ h)))) (by decide +kernel))
set_option maxRecDepth 20000 in
theorem gL_law_X10_litShare : GoodIn wsL_law (wsV RL 345 RX10 yX10_litShare wsX10_litShare) := goodIn_app (goodIn_of _ (by decide +kernel)) ggL_law_X10_litShare
set_option maxRecDepth 20000 in
theorem ggL_law_L_stepsAfter : GoodIn wsL_law wsL_stepsAfter := goodIn_ca (goodIn_ca (goodIn_ca (goodIn_r _ [1585, 1058, 1586, 1587, 1588, 2, 1589, 23, 1265, 1065, 1066, 1067, 1068, 1069, 1070, 34, 1590, 1591, 1592, 1593, 163, 164, 1594, 1595, 1596, 1597, 24, 1289, 1338, 651, 652, 653, 22, 654, 61, 65, 69, 70, 71, 72, 73, 74, 183, 184, 185, 186, 187, 188, 655, 656, 657, 60, 658, 78, 79, 80, 81, 193, 194, 195, 196, 197, 198, 199, 200, 201, 659, 660, 661, 550, 538, 551, 662, 663, 664, 665, 666, 667, 668, 64, 669, 210, 211, 212, 213, 214, 215, 216, 217, 218, 670, 671, 672, 68, 673, 88, 89, 223, 1598, 503, 504, 505, 506, 507, 508, 509, 510, 368, 511, 512, 513, 514, 515, 516, 232, 233, 517, 518, 519, 520, 369, 430, 521, 522, 523, 524, 525, 526, 527, 140, 141, 528, 529, 530, 531, 532, 533, 534, 535, 536, 537, 539, 387, 388, 389, 390, 396, 397, 398, 399, 540, 541, 542, 543, 370, 544, 545, 546, 547, 548, 549, 371, 372, 373, 374, 375, 376, 377, 378, 379, 380, 381, 382, 552, 553, 554, 555, 556, 557, 558, 559, 560, 561, 562, 563, 564, 565, 566, 567, 568, 569, 570, 452, 453, 454, 571, 572, 573, 574, 575, 576, 577, 578, 579, 580, 581, 582, 583, 584, 585, 586, 587, 588, 589, 590, 448, 449, 450, 591, 427, 428, 429, 395, 592, 593, 594, 595, 596, 597, 598, 599, 600, 601, 602, 603, 604, 605, 606, 607, 608, 609, 610, 611, 365, 366, 367, 383, 384, 385, 386, 391, 392, 393, 394, 400, 401, 402, 403, 2057, 2058, 2059, 2060, 2061, 2062, 2063, 2064, 2091, 2092, 2093, 2094, 2095, 2096, 2097, 2098, 2099, 2100, 2101, 2102, 2103, 2104, 2134, 2135, 2136, 2137, 2138, 2139, 2140, 2141, 2142, 2121, 2122, 2123, 2124, 2125, 2126, 2127, 2128, 2129, 2130, 2131, 2132, 2133, 2143, 2144, 2145] (by decide +kernel) (by decide +kernel)) (goodIn_sub (fun _ h => List.mem_append_left _ (List.mem_append_left _ (List.mem_append_left _ (List.mem_append_right _ h)))) (by decide +kernel))) (goodIn_sub (fun _ h => List.mem_append_right _ h) (by decide +kernel))) (goodIn_sub (fun _ h => List.mem_append_left _ (List.mem_append_right _ h)) (by decide +kernel))
set_option maxRecDepth 20000 in
theorem gL_law_L_stepsAfter : GoodIn wsL_law (va_wsS RL 346 yL_stepsAfter wsL_stepsAfter) := goodIn_app (goodIn_of _ (by decide +kernel)) ggL_law_L_stepsAfter
set_option maxRecDepth 20000 in
theorem ggL_law_X10_stepsAfter : GoodIn wsL_law wsX10_stepsAfter := goodIn_ca (goodIn_r _ [1602, 695, 1603, 1604, 5, 1605, 697, 698, 699, 1194, 1195, 1196, 1197, 700, 701, 702, 703, 146, 1606, 1607, 1608, 1609, 122, 704, 705, 706, 707, 123, 708, 709, 710, 930, 931, 932, 933, 934, 935, 936, 937, 938, 939, 940, 941, 942, 943, 944, 945, 790, 791, 792, 793, 838, 839, 840, 841, 946, 947, 948, 949, 950, 951, 952, 953, 954, 537, 538, 539, 783, 784, 785, 955, 956, 957, 958, 959, 960, 961, 962, 963, 550, 551, 878, 879, 880, 881, 882, 883, 884, 885, 886, 887, 888, 889, 964, 965, 966, 967, 968, 969, 970, 971, 972, 973, 974, 975, 898, 899, 900, 901, 976, 977, 978, 979, 834, 835, 836, 837, 980, 981, 982, 983, 984, 985, 986, 987, 988, 588, 589, 989, 990, 991, 992, 993, 994, 995, 996, 997, 998, 999, 1000, 1001, 1002, 1003, 1004, 1005, 1006, 1007, 1008, 874, 875, 876, 877, 890, 891, 892, 893, 894, 895, 896, 897, 902, 903, 904, 905, 1021, 1022, 1023, 1024, 2065, 2066, 2067, 2068, 2069, 2070, 2071, 2072, 2073, 2074, 2075, 2076, 2077, 2078, 2079, 2080, 2081, 2082, 2083, 2084, 2085, 2086] (by decide +kernel) (by decide +kernel)) (goodIn_sub (fun _ h => List.mem_append_left _ (List.mem_append_left _ (List.mem_append_left _ (List.mem_append_right _ h)))) (by decide +kernel))
set_option maxRecDepth 20000 in
theorem gL_law_X10_stepsAfter : GoodIn wsL_law (wsV RL 348 RX10 yX10_stepsAfter wsX10_stepsAfter) := goodIn_app (goodIn_of _ (by decide +kernel)) ggL_law_X10_stepsAfter
set_option maxRecDepth 20000 in
theorem ggL_law_L_walkerTileAfter : GoodIn wsL_law wsL_walkerTileAfter := goodIn_ca (goodIn_ca (goodIn_ca (goodIn_r _ [1612, 1058, 1613, 1614, 1615, 2, 1616, 24, 23, 1289, 1290, 1065, 1066, 1067, 1068, 1069, 1070, 34, 1590, 1591, 1592, 1593, 163, 164, 651, 652, 653, 22, 654, 61, 65, 69, 70, 71, 72, 73, 74, 183, 184, 185, 186, 187, 188, 655, 656, 657, 60, 658, 78, 79, 80, 81, 193, 194, 195, 196, 197, 198, 199, 200, 201, 659, 660, 661, 550, 538, 551, 662, 663, 664, 665, 666, 667, 668, 64, 669, 210, 211, 212, 213, 214, 215, 216, 217, 218, 670, 671, 672, 68, 673, 88, 89, 223, 1598, 503, 504, 505, 506, 507, 508, 509, 510, 368, 511, 512, 513, 514, 515, 516, 232, 233, 517, 518, 519, 520, 369, 430, 521, 522, 523, 524, 525, 526, 527, 140, 141, 528, 529, 530, 531, 532, 533, 534, 535, 536, 537, 539, 387, 388, 389, 390, 396, 397, 398, 399, 540, 541, 542, 543, 370, 544, 545, 546, 547, 548, 549, 371, 372, 373, 374, 375, 376, 377, 378, 379, 380, 381, 382, 552, 553, 554, 555, 556, 557, 558, 559, 560, 561, 562, 563, 564, 565, 566, 567, 568, 569, 570, 452, 453, 454, 571, 572, 573, 574, 575, 576, 577, 578, 579, 580, 581, 582, 583, 584, 585, 586, 587, 588, 589, 590, 448, 449, 450, 591, 427, 428, 429, 395, 592, 593, 594, 595, 596, 597, 598, 599, 600, 601, 602, 603, 604, 605, 606, 607, 608, 609, 610, 611, 365, 366, 367, 383, 384, 385, 386, 391, 392, 393, 394, 400, 401, 402, 403, 2057, 2058, 2059, 2060, 2061, 2062, 2063, 2064, 2091, 2092, 2093, 2094, 2095, 2096, 2097, 2098, 2099, 2100, 2101, 2102, 2103, 2104, 2134, 2135, 2136, 2137, 2138, 2139, 2140, 2141, 2142, 2121, 2122, 2123, 2124, 2125, 2126, 2127, 2128, 2129, 2130, 2131, 2132, 2133, 2143, 2144, 2145] (by decide +kernel) (by decide +kernel)) (goodIn_sub (fun _ h => List.mem_append_left _ (List.mem_append_left _ (List.mem_append_left _ (List.mem_append_right _ h)))) (by decide +kernel))) (goodIn_sub (fun _ h => List.mem_append_right _ h) (by decide +kernel))) (goodIn_sub (fun _ h => List.mem_append_left _ (List.mem_append_right _ h)) (by decide +kernel))
set_option maxRecDepth 20000 in
theorem gL_law_L_walkerTileAfter : GoodIn wsL_law (va_wsS RL 349 yL_walkerTileAfter wsL_walkerTileAfter) := goodIn_app (goodIn_of _ (by decide +kernel)) ggL_law_L_walkerTileAfter
set_option maxRecDepth 20000 in
theorem ggL_law_X10_walkerTileAfter : GoodIn wsL_law wsX10_walkerTileAfter := goodIn_ca (goodIn_r _ [1620, 695, 1603, 1604, 5, 1605, 697, 698, 699, 1194, 1195, 1196, 1197, 700, 701, 702, 703, 146, 1606, 1607, 1608, 1609, 122, 704, 705, 706, 707, 123, 708, 709, 710, 930, 931, 932, 933, 934, 935, 936, 937, 938, 939, 940, 941, 942, 943, 944, 945, 790, 791, 792, 793, 838, 839, 840, 841, 946, 947, 948, 949, 950, 951, 952, 953, 954, 537, 538, 539, 783, 784, 785, 955, 956, 957, 958, 959, 960, 961, 962, 963, 550, 551, 878, 879, 880, 881, 882, 883, 884, 885, 886, 887, 888, 889, 964, 965, 966, 967, 968, 969, 970, 971, 972, 973, 974, 975, 898, 899, 900, 901, 976, 977, 978, 979, 834, 835, 836, 837, 980, 981, 982, 983, 984, 985, 986, 987, 988, 588, 589, 989, 990, 991, 992, 993, 994, 995, 996, 997, 998, 999, 1000, 1001, 1002, 1003, 1004, 1005, 1006, 1007, 1008, 874, 875, 876, 877, 890, 891, 892, 893, 894, 895, 896, 897, 902, 903, 904, 905, 1021, 1022, 1023, 1024, 2065, 2066, 2067, 2068, 2069, 2070, 2071, 2072, 2073, 2074, 2075, 2076, 2077, 2078, 2079, 2080, 2081, 2082, 2083, 2084, 2085, 2086] (by decide +kernel) (by decide +kernel)) (goodIn_sub (fun _ h => List.mem_append_left _ (List.mem_append_left _ (List.mem_append_left _ (List.mem_append_right _ h)))) (by decide +kernel))
set_option maxRecDepth 20000 in
theorem gL_law_X10_walkerTileAfter : GoodIn wsL_law (wsV RL 351 RX10 yX10_walkerTileAfter wsX10_walkerTileAfter) := goodIn_app (goodIn_of _ (by decide +kernel)) ggL_law_X10_walkerTileAfter
set_option maxRecDepth 20000 in
theorem ggL_law_L_spillTimeAfter : GoodIn wsL_law wsL_spillTimeAfter := goodIn_ca (goodIn_ca (goodIn_ca (goodIn_ca (goodIn_r _ [1623, 1058, 1624, 1625, 1626, 2, 1627, 24, 23, 1465, 1065, 1066, 1067, 1068, 1069, 1070, 34, 1174, 1175, 1176, 1177, 161, 162, 684, 448, 449, 22, 450, 61, 430, 369, 1590, 1591, 1592, 1593, 163, 164, 651, 652, 653, 654, 65, 69, 70, 71, 72, 73, 74, 183, 184, 185, 186, 187, 188, 655, 656, 657, 60, 658, 78, 79, 80, 81, 193, 194, 195, 196, 197, 198, 199, 200, 201, 659, 660, 661, 550, 538, 551, 662, 663, 664, 665, 666, 667, 668, 64, 669, 210, 211, 212, 213, 214, 215, 216, 217, 218, 670, 671, 672, 68, 673, 88, 89, 223, 1598, 503, 504, 505, 506, 507, 508, 509, 510, 368, 511, 512, 513, 514, 515, 516, 232, 233, 517, 518, 519, 520, 521, 522, 523, 524, 525, 526, 527, 140, 141, 528, 529, 530, 531, 532, 533, 534, 535, 536, 537, 539, 387, 388, 389, 390, 396, 397, 398, 399, 540, 541, 542, 543, 370, 544, 545, 546, 547, 548, 549, 371, 372, 373, 374, 375, 376, 377, 378, 379, 380, 381, 382, 552, 553, 554, 555, 556, 557, 558, 559, 560, 561, 562, 563, 564, 565, 566, 567, 568, 569, 570, 452, 453, 454, 571, 572, 573, 574, 575, 576, 577, 578, 579, 580, 581, 582, 583, 584, 585, 586, 587, 588, 589, 590, 591, 427, 428, 429, 395, 592, 593, 594, 595, 596, 597, 598, 599, 600, 601, 602, 603, 604, 605, 606, 607, 608, 609, 610, 611, 365, 366, 367, 383, 384, 385, 386, 391, 392, 393, 394, 400, 401, 402, 403, 1210, 2057, 2058, 2059, 2060, 2061, 2062, 2063, 2064, 2091, 2092, 2093, 2094, 2095, 2096, 2097, 2098, 2099, 2100, 2101, 2102, 2103, 2104, 2121, 2122, 2123, 2124, 2125, 2126, 2127, 2128, 2129, 2130, 2131, 2132, 2133, 2134, 2135, 2136, 2137, 2138, 2139, 2140, 2141, 2142, 2143, 2144, 2145] (by decide +kernel) (by decide +kernel)) (goodIn_sub (fun _ h => List.mem_append_left _ (List.mem_append_left _ (List.mem_append_left _ (List.mem_append_right _ h)))) (by decide +kernel))) (goodIn_sub (fun _ h => List.mem_append_right _ h) (by decide +kernel))) (goodIn_sub (fun _ h => List.mem_append_left _ (List.mem_append_left _ (List.mem_append_right _ h))) (by decide +kernel))) (goodIn_sub (fun _ h => List.mem_append_left _ (List.mem_append_right _ h)) (by decide +kernel))
set_option maxRecDepth 20000 in
theorem gL_law_L_spillTimeAfter : GoodIn wsL_law (va_wsS RL 352 yL_spillTimeAfter wsL_spillTimeAfter) := goodIn_app (goodIn_of _ (by decide +kernel)) ggL_law_L_spillTimeAfter
set_option maxRecDepth 20000 in
theorem ggL_law_X10_spillTimeAfter : GoodIn wsL_law wsX10_spillTimeAfter := goodIn_ca (goodIn_r _ [1631, 695, 1190, 1191, 1192, 5, 1193, 790, 791, 792, 793, 122, 697, 698, 699, 1603, 1604, 1605, 700, 701, 702, 703, 146, 1606, 1607, 1608, 1609, 704, 705, 706, 707, 123, 708, 709, 710, 930, 931, 932, 933, 934, 935, 936, 937, 938, 939, 940, 941, 942, 943, 944, 945, 838, 839, 840, 841, 946, 947, 948, 949, 950, 951, 952, 953, 954, 537, 538, 539, 783, 784, 785, 955, 956, 957, 958, 959, 960, 961, 962, 963, 550, 551, 878, 879, 880, 881, 882, 883, 884, 885, 886, 887, 888, 889, 964, 965, 966, 967, 968, 969, 970, 971, 972, 973, 974, 975, 898, 899, 900, 901, 976, 977, 978, 979, 834, 835, 836, 837, 980, 981, 982, 983, 984, 985, 986, 987, 988, 588, 589, 989, 990, 991, 992, 993, 994, 995, 996, 997, 998, 999, 1000, 1001, 1002, 1003, 1004, 1005, 1006, 1007, 1008, 874, 875, 876, 877, 890, 891, 892, 893, 894, 895, 896, 897, 902, 903, 904, 905, 1021, 1022, 1023, 1024, 2065, 2066, 2067, 2068, 2069, 2070, 2071, 2072, 2073, 2074, 2075, 2076, 2077, 2078, 2079, 2080, 2081, 2082, 2083, 2084, 2085, 2086] (by decide +kernel) (by decide +kernel)) (goodIn_sub (fun _ h => List.mem_append_left _ (List.mem_append_left _ (List.mem_append_left _ (List.mem_append_right _ h)))) (by decide +kernel))
set_option maxRecDepth 20000 in
theorem gL_law_X10_spillTimeAfter : GoodIn wsL_law (wsV RL 355 RX10 yX10_spillTimeAfter wsX10_spillTimeAfter) := goodIn_app (goodIn_of _ (by decide +kernel)) ggL_law_X10_spillTimeAfter
set_option maxRecDepth 20000 in
theorem ggL_law_L_minutesUntilStep : GoodIn wsL_law wsL_minutesUntilStep := goodIn_ca (goodIn_ca (goodIn_ca (goodIn_r _ [1634, 1058, 1635, 1636, 1637, 2, 1638, 24, 23, 1405, 1065, 1066, 1067, 1068, 1069, 1070, 34, 1174, 1175, 1176, 1177, 161, 162, 684, 448, 449, 22, 450, 61, 430, 369, 651, 652, 653, 654, 65, 69, 70, 71, 72, 73, 74, 183, 184, 185, 186, 187, 188, 655, 656, 657, 60, 658, 78, 79, 80, 81, 193, 194, 195, 196, 197, 198, 199, 200, 201, 659, 660, 661, 550, 538, 551, 662, 663, 664, 665, 666, 667, 668, 64, 669, 210, 211, 212, 213, 214, 215, 216, 217, 218, 670, 671, 672, 68, 673, 88, 89, 223, 1238, 507, 508, 509, 510, 368, 511, 512, 513, 514, 515, 516, 232, 233, 517, 518, 519, 520, 521, 522, 523, 524, 525, 526, 527, 140, 141, 528, 529, 530, 531, 532, 533, 534, 535, 536, 537, 539, 387, 388, 389, 390, 396, 397, 398, 399, 540, 541, 542, 543, 370, 544, 545, 546, 547, 548, 549, 371, 372, 373, 374, 375, 376, 377, 378, 379, 380, 381, 382, 552, 553, 554, 555, 556, 557, 558, 559, 560, 561, 562, 563, 564, 565, 566, 567, 568, 569, 570, 452, 453, 454, 571, 572, 573, 574, 575, 576, 577, 578, 579, 580, 581, 582, 583, 584, 585, 586, 587, 588, 589, 590, 591, 427, 428, 429, 395, 592, 593, 594, 595, 596, 597, 598, 599, 600, 601, 602, 603, 604, 605, 606, 607, 608, 609, 610, 611, 365, 366, 367, 383, 384, 385, 386, 391, 392, 393, 394, 400, 401, 402, 403, 1210, 2057, 2058, 2059, 2060, 2061, 2062, 2063, 2064, 2091, 2092, 2093, 2094, 2095, 2096, 2097, 2098, 2099, 2100, 2101, 2102, 2103, 2104, 2121, 2122, 2123, 2124, 2125, 2126, 2127, 2128, 2129, 2130, 2131, 2132, 2133, 2134, 2135, 2136, 2137, 2138, 2139, 2140, 2141, 2142, 2143, 2144, 2145] (by decide +kernel) (by decide +kernel)) (goodIn_sub (fun _ h => List.mem_append_left _ (List.mem_append_left _ (List.mem_append_left _ (List.mem_append_right _ h)))) (by decide +kernel))) (goodIn_sub (fun _ h => List.mem_append_right _ h) (by decide +kernel))) (goodIn_sub (fun _ h => List.mem_append_left _ (List.mem_append_left _ (List.mem_append_right _ h))) (by decide +kernel))
set_option maxRecDepth 20000 in
theorem gL_law_L_minutesUntilStep : GoodIn wsL_law (va_wsS RL 356 yL_minutesUntilStep wsL_minutesUntilStep) := goodIn_app (goodIn_of _ (by decide +kernel)) ggL_law_L_minutesUntilStep
set_option maxRecDepth 20000 in
theorem ggL_law_X10_minutesUntilStep : GoodIn wsL_law wsX10_minutesUntilStep := goodIn_ca (goodIn_r _ [1642, 1186, 1187, 1188, 5, 1189, 695, 1190, 1191, 1192, 1193, 790, 791, 792, 793, 122, 697, 698, 699, 1194, 1195, 1196, 1197, 700, 701, 702, 703, 146, 1643, 1644, 1645, 1646, 704, 705, 706, 707, 123, 708, 709, 710, 934, 935, 936, 937, 938, 939, 940, 941, 942, 943, 944, 945, 838, 839, 840, 841, 946, 947, 948, 949, 950, 951, 952, 953, 954, 537, 538, 539, 783, 784, 785, 955, 956, 957, 958, 959, 960, 961, 962, 963, 550, 551, 878, 879, 880, 881, 882, 883, 884, 885, 886, 887, 888, 889, 964, 965, 966, 967, 968, 969, 970, 971, 972, 973, 974, 975, 898, 899, 900, 901, 976, 977, 978, 979, 834, 835, 836, 837, 980, 981, 982, 983, 984, 985, 986, 987, 988, 588, 589, 989, 990, 991, 992, 993, 994, 995, 996, 997, 998, 999, 1000, 1001, 1002, 1003, 1004, 1005, 1006, 1007, 1008, 874, 875, 876, 877, 890, 891, 892, 893, 894, 895, 896, 897, 902, 903, 904, 905, 1021, 1022, 1023, 1024, 2065, 2066, 2067, 2068, 2069, 2070, 2071, 2072, 2073, 2074, 2075, 2076, 2077, 2078, 2079, 2080, 2081, 2082, 2083, 2084, 2085, 2086] (by decide +kernel) (by decide +kernel)) (goodIn_sub (fun _ h => List.mem_append_left _ (List.mem_append_left _ (List.mem_append_left _ (List.mem_append_right _ h)))) (by decide +kernel))
set_option maxRecDepth 20000 in
theorem gL_law_X10_minutesUntilStep : GoodIn wsL_law (wsV RL 358 RX10 yX10_minutesUntilStep wsX10_minutesUntilStep) := goodIn_app (goodIn_of _ (by decide +kernel)) ggL_law_X10_minutesUntilStep
set_option maxRecDepth 20000 in
theorem ggL_law_L_minutesUntilFall : GoodIn wsL_law wsL_minutesUntilFall := goodIn_ca (goodIn_ca (goodIn_r _ [1649, 1058, 1650, 1651, 1652, 2, 1653, 24, 23, 1289, 1374, 1065, 1066, 1067, 1068, 1069, 1070, 34, 651, 652, 653, 22, 654, 61, 65, 69, 70, 71, 72, 73, 74, 183, 184, 185, 186, 187, 188, 655, 656, 657, 60, 658, 78, 79, 80, 81, 193, 194, 195, 196, 197, 198, 199, 200, 201, 659, 660, 661, 550, 538, 551, 662, 663, 664, 665, 666, 667, 668, 64, 669, 210, 211, 212, 213, 214, 215, 216, 217, 218, 670, 671, 672, 68, 673, 88, 89, 223, 1238, 507, 508, 509, 510, 368, 511, 512, 513, 514, 515, 516, 232, 233, 517, 518, 519, 520, 369, 430, 521, 522, 523, 524, 525, 526, 527, 140, 141, 528, 529, 530, 531, 532, 533, 534, 535, 536, 537, 539, 387, 388, 389, 390, 396, 397, 398, 399, 540, 541, 542, 543, 370, 544, 545, 546, 547, 548, 549, 371, 372, 373, 374, 375, 376, 377, 378, 379, 380, 381, 382, 552, 553, 554, 555, 556, 557, 558, 559, 560, 561, 562, 563, 564, 565, 566, 567, 568, 569, 570, 452, 453, 454, 571, 572, 573, 574, 575, 576, 577, 578, 579, 580, 581, 582, 583, 584, 585, 586, 587, 588, 589, 590, 448, 449, 450, 591, 427, 428, 429, 395, 592, 593, 594, 595, 596, 597, 598, 599, 600, 601, 602, 603, 604, 605, 606, 607, 608, 609, 610, 611, 365, 366, 367, 383, 384, 385, 386, 391, 392, 393, 394, 400, 401, 402, 403, 2057, 2058, 2059, 2060, 2061, 2062, 2063, 2064, 2091, 2092, 2093, 2094, 2095, 2096, 2097, 2098, 2099, 2100, 2101, 2102, 2103, 2104, 2134, 2135, 2136, 2137, 2138, 2139, 2140, 2141, 2142, 2121, 2122, 2123, 2124, 2125, 2126, 2127, 2128, 2129, 2130, 2131, 2132, 2133, 2143, 2144, 2145] (by decide +kernel) (by decide +kernel)) (goodIn_sub (fun _ h => List.mem_append_left _ (List.mem_append_left _ (List.mem_append_left _ (List.mem_append_right _ h)))) (by decide +kernel))) (goodIn_sub (fun _ h => List.mem_append_right _ h) (by decide +kernel))
set_option maxRecDepth 20000 in
theorem gL_law_L_minutesUntilFall : GoodIn wsL_law (va_wsS RL 359 yL_minutesUntilFall wsL_minutesUntilFall) := goodIn_app (goodIn_of _ (by decide +kernel)) ggL_law_L_minutesUntilFall
set_option maxRecDepth 20000 in
theorem ggL_law_X10_minutesUntilFall : GoodIn wsL_law wsX10_minutesUntilFall := goodIn_ca (goodIn_r _ [1657, 1079, 1080, 1081, 5, 1082, 695, 700, 701, 702, 703, 146, 1643, 1644, 1645, 1646, 122, 704, 705, 706, 707, 123, 708, 709, 710, 934, 935, 936, 937, 938, 939, 940, 941, 942, 943, 944, 945, 790, 791, 792, 793, 838, 839, 840, 841, 946, 947, 948, 949, 950, 951, 952, 953, 954, 537, 538, 539, 783, 784, 785, 955, 956, 957, 958, 959, 960, 961, 962, 963, 550, 551, 878, 879, 880, 881, 882, 883, 884, 885, 886, 887, 888, 889, 697, 698, 699, 964, 965, 966, 967, 968, 969, 970, 971, 972, 973, 974, 975, 898, 899, 900, 901, 976, 977, 978, 979, 834, 835, 836, 837, 980, 981, 982, 983, 984, 985, 986, 987, 988, 588, 589, 989, 990, 991, 992, 993, 994, 995, 996, 997, 998, 999, 1000, 1001, 1002, 1003, 1004, 1005, 1006, 1007, 1008, 874, 875, 876, 877, 890, 891, 892, 893, 894, 895, 896, 897, 902, 903, 904, 905, 1021, 1022, 1023, 1024, 2065, 2066, 2067, 2068, 2069, 2070, 2071, 2072, 2073, 2074, 2075, 2076, 2077, 2078, 2079, 2080, 2081, 2082, 2083, 2084, 2085, 2086] (by decide +kernel) (by decide +kernel)) (goodIn_sub (fun _ h => List.mem_append_left _ (List.mem_append_left _ (List.mem_append_left _ (List.mem_append_right _ h)))) (by decide +kernel))
set_option maxRecDepth 20000 in
theorem gL_law_X10_minutesUntilFall : GoodIn wsL_law (wsV RL 361 RX10 yX10_minutesUntilFall wsX10_minutesUntilFall) := goodIn_app (goodIn_of _ (by decide +kernel)) ggL_law_X10_minutesUntilFall
set_option maxRecDepth 20000 in
theorem ggL_law_L_stepsAtPace : GoodIn wsL_law wsL_stepsAtPace := goodIn_ca (goodIn_ca (goodIn_ca (goodIn_r _ [1660, 1058, 1661, 1662, 1663, 2, 1664, 1065, 1066, 1067, 1068, 1069, 1070, 34, 1665, 1666, 1667, 1668, 163, 164, 1590, 1591, 1592, 1593, 1594, 1595, 1596, 1597, 24, 23, 1265, 1289, 1338, 651, 652, 653, 22, 654, 61, 65, 69, 70, 71, 72, 73, 74, 183, 184, 185, 186, 187, 188, 655, 656, 657, 60, 658, 78, 79, 80, 81, 193, 194, 195, 196, 197, 198, 199, 200, 201, 659, 660, 661, 550, 538, 551, 662, 663, 664, 665, 666, 667, 668, 64, 669, 210, 211, 212, 213, 214, 215, 216, 217, 218, 670, 671, 672, 68, 673, 88, 89, 223, 1598, 503, 504, 505, 506, 507, 508, 509, 510, 368, 511, 512, 513, 514, 515, 516, 232, 233, 517, 518, 519, 520, 369, 430, 521, 522, 523, 524, 525, 526, 527, 140, 141, 528, 529, 530, 531, 532, 533, 534, 535, 536, 537, 539, 387, 388, 389, 390, 396, 397, 398, 399, 540, 541, 542, 543, 370, 544, 545, 546, 547, 548, 549, 371, 372, 373, 374, 375, 376, 377, 378, 379, 380, 381, 382, 552, 553, 554, 555, 556, 557, 558, 559, 560, 561, 562, 563, 564, 565, 566, 567, 568, 569, 570, 452, 453, 454, 571, 572, 573, 574, 575, 576, 577, 578, 579, 580, 581, 582, 583, 584, 585, 586, 587, 588, 589, 590, 448, 449, 450, 591, 427, 428, 429, 395, 592, 593, 594, 595, 596, 597, 598, 599, 600, 601, 602, 603, 604, 605, 606, 607, 608, 609, 610, 611, 365, 366, 367, 383, 384, 385, 386, 391, 392, 393, 394, 400, 401, 402, 403, 2057, 2058, 2059, 2060, 2061, 2062, 2063, 2064, 2091, 2092, 2093, 2094, 2095, 2096, 2097, 2098, 2099, 2100, 2101, 2102, 2103, 2104, 2134, 2135, 2136, 2137, 2138, 2139, 2140, 2141, 2142, 2121, 2122, 2123, 2124, 2125, 2126, 2127, 2128, 2129, 2130, 2131, 2132, 2133, 2143, 2144, 2145] (by decide +kernel) (by decide +kernel)) (goodIn_sub (fun _ h => List.mem_append_left _ (List.mem_append_left _ (List.mem_append_left _ (List.mem_append_right _ h)))) (by decide +kernel))) (goodIn_sub (fun _ h => List.mem_append_right _ h) (by decide +kernel))) (goodIn_sub (fun _ h => List.mem_append_left _ (List.mem_append_right _ h)) (by decide +kernel))
set_option maxRecDepth 20000 in
theorem gL_law_L_stepsAtPace : GoodIn wsL_law (va_wsS RL 362 yL_stepsAtPace wsL_stepsAtPace) := goodIn_app (goodIn_of _ (by decide +kernel)) ggL_law_L_stepsAtPace
set_option maxRecDepth 20000 in
theorem ggL_law_X10_stepsAtPace : GoodIn wsL_law wsX10_stepsAtPace := goodIn_ca (goodIn_r _ [1672, 695, 1673, 1674, 5, 1675, 697, 698, 699, 1603, 1604, 1605, 1194, 1195, 1196, 1197, 700, 701, 702, 703, 146, 1676, 1677, 1678, 1679, 122, 704, 705, 706, 707, 123, 708, 709, 710, 930, 931, 932, 933, 934, 935, 936, 937, 938, 939, 940, 941, 942, 943, 944, 945, 790, 791, 792, 793, 838, 839, 840, 841, 946, 947, 948, 949, 950, 951, 952, 953, 954, 537, 538, 539, 783, 784, 785, 955, 956, 957, 958, 959, 960, 961, 962, 963, 550, 551, 878, 879, 880, 881, 882, 883, 884, 885, 886, 887, 888, 889, 964, 965, 966, 967, 968, 969, 970, 971, 972, 973, 974, 975, 898, 899, 900, 901, 976, 977, 978, 979, 834, 835, 836, 837, 980, 981, 982, 983, 984, 985, 986, 987, 988, 588, 589, 989, 990, 991, 992, 993, 994, 995, 996, 997, 998, 999, 1000, 1001, 1002, 1003, 1004, 1005, 1006, 1007, 1008, 874, 875, 876, 877, 890, 891, 892, 893, 894, 895, 896, 897, 902, 903, 904, 905, 1021, 1022, 1023, 1024, 2065, 2066, 2067, 2068, 2069, 2070, 2071, 2072, 2073, 2074, 2075, 2076, 2077, 2078, 2079, 2080, 2081, 2082, 2083, 2084, 2085, 2086] (by decide +kernel) (by decide +kernel)) (goodIn_sub (fun _ h => List.mem_append_left _ (List.mem_append_left _ (List.mem_append_left _ (List.mem_append_right _ h)))) (by decide +kernel))
set_option maxRecDepth 20000 in
theorem gL_law_X10_stepsAtPace : GoodIn wsL_law (wsV RL 364 RX10 yX10_stepsAtPace wsX10_stepsAtPace) := goodIn_app (goodIn_of _ (by decide +kernel)) ggL_law_X10_stepsAtPace
set_option maxRecDepth 20000 in
theorem ggL_law_L_bestPace : GoodIn wsL_law wsL_bestPace := goodIn_ca (goodIn_ca (goodIn_ca (goodIn_r _ [1682, 1058, 1683, 1684, 1685, 2, 1686, 1065, 1066, 1067, 1068, 1069, 1070, 34, 1590, 1591, 1592, 1593, 163, 164, 1594, 1595, 1596, 1597, 24, 23, 1265, 1289, 1338, 651, 652, 653, 22, 654, 61, 65, 69, 70, 71, 72, 73, 74, 183, 184, 185, 186, 187, 188, 655, 656, 657, 60, 658, 78, 79, 80, 81, 193, 194, 195, 196, 197, 198, 199, 200, 201, 659, 660, 661, 550, 538, 551, 662, 663, 664, 665, 666, 667, 668, 64, 669, 210, 211, 212, 213, 214, 215, 216, 217, 218, 670, 671, 672, 68, 673, 88, 89, 223, 1598, 503, 504, 505, 506, 507, 508, 509, 510, 368, 511, 512, 513, 514, 515, 516, 232, 233, 517, 518, 519, 520, 369, 430, 521, 522, 523, 524, 525, 526, 527, 140, 141, 528, 529, 530, 531, 532, 533, 534, 535, 536, 537, 539, 387, 388, 389, 390, 396, 397, 398, 399, 540, 541, 542, 543, 370, 544, 545, 546, 547, 548, 549, 371, 372, 373, 374, 375, 376, 377, 378, 379, 380, 381, 382, 552, 553, 554, 555, 556, 557, 558, 559, 560, 561, 562, 563, 564, 565, 566, 567, 568, 569, 570, 452, 453, 454, 571, 572, 573, 574, 575, 576, 577, 578, 579, 580, 581, 582, 583, 584, 585, 586, 587, 588, 589, 590, 448, 449, 450, 591, 427, 428, 429, 395, 592, 593, 594, 595, 596, 597, 598, 599, 600, 601, 602, 603, 604, 605, 606, 607, 608, 609, 610, 611, 365, 366, 367, 383, 384, 385, 386, 391, 392, 393, 394, 400, 401, 402, 403, 2057, 2058, 2059, 2060, 2061, 2062, 2063, 2064, 2091, 2092, 2093, 2094, 2095, 2096, 2097, 2098, 2099, 2100, 2101, 2102, 2103, 2104, 2134, 2135, 2136, 2137, 2138, 2139, 2140, 2141, 2142, 2121, 2122, 2123, 2124, 2125, 2126, 2127, 2128, 2129, 2130, 2131, 2132, 2133, 2143, 2144, 2145] (by decide +kernel) (by decide +kernel)) (goodIn_sub (fun _ h => List.mem_append_left _ (List.mem_append_left _ (List.mem_append_left _ (List.mem_append_right _ h)))) (by decide +kernel))) (goodIn_sub (fun _ h => List.mem_append_right _ h) (by decide +kernel))) (goodIn_sub (fun _ h => List.mem_append_left _ (List.mem_append_right _ h)) (by decide +kernel))
set_option maxRecDepth 20000 in
theorem gL_law_L_bestPace : GoodIn wsL_law (va_wsS RL 365 yL_bestPace wsL_bestPace) := goodIn_app (goodIn_of _ (by decide +kernel)) ggL_law_L_bestPace
set_option maxRecDepth 20000 in
theorem ggL_law_X10_bestPace : GoodIn wsL_law wsX10_bestPace := goodIn_ca (goodIn_r _ [1690, 695, 1603, 1604, 5, 1605, 697, 698, 699, 1194, 1195, 1196, 1197, 700, 701, 702, 703, 146, 1673, 1674, 1675, 1676, 1677, 1678, 1679, 122, 704, 705, 706, 707, 123, 708, 709, 710, 930, 931, 932, 933, 934, 935, 936, 937, 938, 939, 940, 941, 942, 943, 944, 945, 790, 791, 792, 793, 838, 839, 840, 841, 946, 947, 948, 949, 950, 951, 952, 953, 954, 537, 538, 539, 783, 784, 785, 955, 956, 957, 958, 959, 960, 961, 962, 963, 550, 551, 878, 879, 880, 881, 882, 883, 884, 885, 886, 887, 888, 889, 964, 965, 966, 967, 968, 969, 970, 971, 972, 973, 974, 975, 898, 899, 900, 901, 976, 977, 978, 979, 834, 835, 836, 837, 980, 981, 982, 983, 984, 985, 986, 987, 988, 588, 589, 989, 990, 991, 992, 993, 994, 995, 996, 997, 998, 999, 1000, 1001, 1002, 1003, 1004, 1005, 1006, 1007, 1008, 874, 875, 876, 877, 890, 891, 892, 893, 894, 895, 896, 897, 902, 903, 904, 905, 1021, 1022, 1023, 1024, 2065, 2066, 2067, 2068, 2069, 2070, 2071, 2072, 2073, 2074, 2075, 2076, 2077, 2078, 2079, 2080, 2081, 2082, 2083, 2084, 2085, 2086] (by decide +kernel) (by decide +kernel)) (goodIn_sub (fun _ h => List.mem_append_left _ (List.mem_append_left _ (List.mem_append_left _ (List.mem_append_right _ h)))) (by decide +kernel))
set_option maxRecDepth 20000 in
theorem gL_law_X10_bestPace : GoodIn wsL_law (wsV RL 367 RX10 yX10_bestPace wsX10_bestPace) := goodIn_app (goodIn_of _ (by decide +kernel)) ggL_law_X10_bestPace
set_option maxRecDepth 20000 in
theorem ggL_law_L_bestCurtain : GoodIn wsL_law wsL_bestCurtain := goodIn_ca (goodIn_ca (goodIn_ca (goodIn_r _ [1693, 1058, 1694, 1695, 1696, 2, 1697, 23, 1063, 1090, 1205, 24, 1289, 1338, 1065, 1066, 1067, 1068, 1069, 1070, 34, 1590, 1591, 1592, 1593, 163, 164, 1210, 232, 233, 651, 652, 653, 22, 654, 61, 65, 69, 70, 71, 72, 73, 74, 183, 184, 185, 186, 187, 188, 655, 656, 657, 60, 658, 78, 79, 80, 81, 193, 194, 195, 196, 197, 198, 199, 200, 201, 659, 660, 661, 550, 538, 551, 662, 663, 664, 665, 666, 667, 668, 64, 669, 210, 211, 212, 213, 214, 215, 216, 217, 218, 670, 671, 672, 68, 673, 88, 89, 223, 139, 140, 141, 1598, 503, 504, 505, 506, 507, 508, 509, 510, 368, 511, 512, 513, 514, 515, 516, 517, 518, 519, 520, 369, 430, 521, 522, 523, 524, 525, 526, 527, 528, 529, 530, 531, 532, 533, 534, 535, 536, 537, 539, 387, 388, 389, 390, 396, 397, 398, 399, 540, 541, 542, 543, 370, 544, 545, 546, 547, 548, 549, 371, 372, 373, 374, 375, 376, 377, 378, 379, 380, 381, 382, 552, 553, 554, 555, 556, 557, 558, 559, 560, 561, 562, 563, 564, 565, 566, 567, 568, 569, 570, 452, 453, 454, 571, 572, 573, 574, 575, 576, 577, 578, 579, 580, 581, 582, 583, 584, 585, 586, 587, 588, 589, 590, 448, 449, 450, 591, 427, 428, 429, 395, 592, 593, 594, 595, 596, 597, 598, 599, 600, 601, 602, 603, 604, 605, 606, 607, 608, 609, 610, 611, 365, 366, 367, 383, 384, 385, 386, 391, 392, 393, 394, 400, 401, 402, 403, 2057, 2058, 2059, 2060, 2061, 2062, 2063, 2064, 2091, 2092, 2093, 2094, 2095, 2096, 2097, 2098, 2099, 2100, 2101, 2102, 2103, 2104, 2121, 2122, 2123, 2124, 2125, 2126, 2127, 2128, 2129, 2130, 2131, 2132, 2133, 2134, 2135, 2136, 2137, 2138, 2139, 2140, 2141, 2142, 2143, 2144, 2145] (by decide +kernel) (by decide +kernel)) (goodIn_sub (fun _ h => List.mem_append_left _ (List.mem_append_left _ (List.mem_append_left _ (List.mem_append_right _ h)))) (by decide +kernel))) (goodIn_sub (fun _ h => List.mem_append_right _ h) (by decide +kernel))) (goodIn_sub (fun _ h => List.mem_append_left _ (List.mem_append_right _ h)) (by decide +kernel))
set_option maxRecDepth 20000 in
theorem gL_law_L_bestCurtain : GoodIn wsL_law (va_wsS RL 368 yL_bestCurtain wsL_bestCurtain) := goodIn_app (goodIn_of _ (by decide +kernel)) ggL_law_L_bestCurtain
set_option maxRecDepth 20000 in
theorem ggL_law_X10_bestCurtain : GoodIn wsL_law wsX10_bestCurtain := goodIn_ca (goodIn_r _ [1701, 695, 122, 1603, 1604, 5, 1605, 697, 698, 699, 1194, 1195, 1196, 1197, 700, 701, 702, 703, 146, 898, 899, 900, 901, 1676, 1677, 1678, 1679, 704, 705, 706, 707, 123, 708, 709, 710, 930, 931, 932, 933, 934, 935, 936, 937, 938, 939, 940, 941, 942, 943, 944, 945, 790, 791, 792, 793, 838, 839, 840, 841, 946, 947, 948, 949, 950, 951, 952, 953, 954, 537, 538, 539, 783, 784, 785, 955, 956, 957, 958, 959, 960, 961, 962, 963, 550, 551, 878, 879, 880, 881, 882, 883, 884, 885, 886, 887, 888, 889, 964, 965, 966, 967, 968, 969, 970, 971, 972, 973, 974, 975, 976, 977, 978, 979, 834, 835, 836, 837, 980, 981, 982, 983, 984, 985, 986, 987, 988, 588, 589, 989, 990, 991, 992, 993, 994, 995, 996, 997, 998, 999, 1000, 1001, 1002, 1003, 1004, 1005, 1006, 1007, 1008, 874, 875, 876, 877, 890, 891, 892, 893, 894, 895, 896, 897, 902, 903, 904, 905, 1021, 1022, 1023, 1024, 2065, 2066, 2067, 2068, 2069, 2070, 2071, 2072, 2073, 2074, 2075, 2076, 2077, 2078, 2079, 2080, 2081, 2082, 2083, 2084, 2085, 2086] (by decide +kernel) (by decide +kernel)) (goodIn_sub (fun _ h => List.mem_append_left _ (List.mem_append_left _ (List.mem_append_left _ (List.mem_append_right _ h)))) (by decide +kernel))
set_option maxRecDepth 20000 in
theorem gL_law_X10_bestCurtain : GoodIn wsL_law (wsV RL 370 RX10 yX10_bestCurtain wsX10_bestCurtain) := goodIn_app (goodIn_of _ (by decide +kernel)) ggL_law_X10_bestCurtain
set_option maxRecDepth 20000 in
theorem ggL_law_L_writeRow : GoodIn wsL_law wsL_writeRow := goodIn_ca (goodIn_ca (goodIn_ca (goodIn_r _ [1704, 1058, 1705, 1706, 1707, 2, 1708, 161, 162, 23, 1063, 1064, 19, 1090, 1065, 1066, 1067, 1068, 1069, 1070, 34, 1709, 1710, 1711, 18, 1712, 1713, 1714, 1715, 1716, 40, 1717, 1718, 1719, 1720, 1721, 45, 1722, 1723, 1724, 1725, 1726, 1727, 46, 1728, 1729, 1730, 1731, 1732, 1733, 1734, 1735, 1736, 1737, 1738, 588, 538, 589, 1739, 1740, 1741, 1742, 1743, 1744, 204, 1745, 1746, 1747, 1748, 1749, 1750, 1751, 44, 1752, 550, 551, 1753, 663, 664, 665, 1754, 1755, 1756, 1757, 1758, 43, 1759, 1760, 275, 1761, 1762, 1763, 1764, 1765, 1766, 1767, 1768, 17, 1769, 1770, 1771, 1772, 1773, 49, 1774, 1775, 1776, 1777, 1778, 22, 1779, 65, 368, 187, 73, 72, 74, 232, 233, 1780, 1179, 1180, 1181, 371, 372, 373, 374, 61, 185, 375, 376, 377, 378, 184, 379, 380, 381, 60, 382, 200, 79, 80, 383, 384, 385, 386, 70, 387, 388, 389, 390, 369, 391, 392, 393, 394, 395, 396, 397, 398, 399, 1781, 1782, 1783, 1784, 1785, 1786, 1787, 1788, 1789, 1790, 1791, 1792, 1793, 1794, 1795, 1796, 47, 48, 50, 51, 52, 53, 54, 1797, 1798, 1799, 1800, 1801, 1802, 1803, 1804, 1805, 291, 292, 293, 1806, 1807, 253, 1808, 280, 1809, 1810, 283, 1811, 1812, 1813, 1814, 298, 299, 300, 1815, 1816, 1817, 288, 289, 290, 294, 278, 279, 281, 282, 284, 1818, 1819, 1820, 1821, 1822, 1823, 1824, 1825, 2057, 2058, 2059, 2060, 2061, 2062, 2063, 2064, 2091, 2092, 2093, 2094, 2095, 2096, 2097, 2098, 2099, 2100, 2101, 2102, 2103, 2104, 2121, 2122, 2123, 2124, 2125, 2126, 2127, 2128, 2129, 2130, 2131, 2132, 2133, 2155, 2156, 2157, 2158, 2159, 2160, 2087, 2088, 2089, 2090, 2161, 2162, 2163, 2164, 2165, 2166, 2134, 2135, 2136, 2137, 2138, 2139, 2140, 2141, 2142] (by decide +kernel) (by decide +kernel)) (goodIn_sub (fun _ h => List.mem_append_left _ (List.mem_append_left _ (List.mem_append_left _ (List.mem_append_right _ h)))) (by decide +kernel))) (goodIn_sub (fun _ h => List.mem_append_left _ (List.mem_append_left _ (List.mem_append_right _ h))) (by decide +kernel))) (goodIn_sub (fun _ h => List.mem_append_right _ h) (by decide +kernel))
set_option maxRecDepth 20000 in
theorem gL_law_L_writeRow : GoodIn wsL_law (va_wsS RL 371 yL_writeRow wsL_writeRow) := goodIn_app (goodIn_of _ (by decide +kernel)) ggL_law_L_writeRow
set_option maxRecDepth 20000 in
theorem ggL_law_X10_writeRow : GoodIn wsL_law wsX10_writeRow := goodIn_ca (goodIn_r _ [1829, 695, 122, 1830, 697, 698, 5, 699, 1194, 1195, 1196, 1197, 700, 701, 702, 703, 146, 1831, 1832, 1833, 1834, 838, 839, 840, 841, 890, 891, 892, 893, 878, 879, 880, 881, 882, 883, 884, 885, 886, 887, 888, 889, 894, 895, 896, 897, 898, 899, 900, 901, 1835, 1836, 1837, 1838, 130, 2065, 2066, 2067, 2068, 2069, 2070, 2071, 2072, 2073, 2074, 2075, 2076, 2077, 2078, 2079, 2080, 2081, 2082, 2083, 2084, 2085, 2086] (by decide +kernel) (by decide +kernel)) (goodIn_sub (fun _ h => List.mem_append_left _ (List.mem_append_left _ (List.mem_append_left _ (List.mem_append_right _ h)))) (by decide +kernel))
set_option maxRecDepth 20000 in
theorem gL_law_X10_writeRow : GoodIn wsL_law (wsV RL 373 RX10 yX10_writeRow wsX10_writeRow) := goodIn_app (goodIn_of _ (by decide +kernel)) ggL_law_X10_writeRow
set_option maxRecDepth 20000 in
theorem ggL_law_L_writeRecords : GoodIn wsL_law wsL_writeRecords := goodIn_ca (goodIn_ca (goodIn_r _ [1841, 1058, 1842, 1843, 1844, 2, 1845, 23, 1489, 19, 1490, 1502, 1522, 1065, 1066, 1067, 1068, 1069, 1070, 34, 1709, 1710, 1711, 18, 1712, 1713, 1714, 1715, 1716, 40, 1717, 1718, 1719, 1720, 1721, 45, 1722, 1723, 1724, 1725, 1726, 1727, 46, 1728, 1729, 1730, 1731, 1732, 1733, 1734, 1735, 1736, 1737, 1738, 588, 538, 589, 1739, 1740, 1741, 1742, 1743, 1744, 204, 1745, 1746, 1747, 1748, 1749, 1750, 1751, 44, 1752, 550, 551, 1753, 663, 664, 665, 1754, 1755, 1756, 1757, 1758, 43, 1759, 1760, 275, 1761, 1762, 1763, 1764, 1765, 1766, 1767, 1768, 17, 1769, 1770, 1771, 1772, 1773, 49, 1774, 1775, 1781, 1782, 1783, 1784, 1785, 1786, 1787, 1788, 1789, 1790, 1791, 1792, 1793, 1794, 1795, 1796, 47, 48, 50, 51, 52, 53, 54, 1797, 1798, 1799, 1800, 1801, 1802, 1803, 1804, 1805, 291, 292, 293, 1806, 1807, 253, 1808, 280, 1809, 1810, 283, 1811, 1812, 1813, 1814, 298, 299, 300, 1815, 1816, 1817, 288, 289, 290, 294, 278, 279, 281, 282, 284, 1210, 232, 233, 1846, 1847, 1848, 1849, 1850, 1851, 1852, 1853, 1854, 1855, 1856, 1857, 1858, 1859, 1860, 1861, 1862, 1863, 1864, 1865, 1866, 1867, 1868, 1869, 1870, 1871, 1872, 1873, 1874, 1875, 1876, 1877, 1878, 1879, 1818, 1819, 1820, 1821, 1822, 1823, 1824, 1825, 2057, 2058, 2059, 2060, 2061, 2062, 2063, 2064, 2091, 2092, 2093, 2094, 2095, 2096, 2097, 2098, 2099, 2100, 2101, 2102, 2103, 2104, 2143, 2144, 2145, 2155, 2156, 2157, 2158, 2159, 2160, 2087, 2088, 2089, 2090, 2161, 2162, 2163, 2164, 2165, 2166] (by decide +kernel) (by decide +kernel)) (goodIn_sub (fun _ h => List.mem_append_left _ (List.mem_append_left _ (List.mem_append_left _ (List.mem_append_right _ h)))) (by decide +kernel))) (goodIn_sub (fun _ h => List.mem_append_right _ h) (by decide +kernel))
set_option maxRecDepth 20000 in
theorem gL_law_L_writeRecords : GoodIn wsL_law (va_wsS RL 374 yL_writeRecords wsL_writeRecords) := goodIn_app (goodIn_of _ (by decide +kernel)) ggL_law_L_writeRecords
set_option maxRecDepth 20000 in
theorem ggL_law_X10_writeRecords : GoodIn wsL_law wsX10_writeRecords := goodIn_ca (goodIn_r _ [1883, 1830, 122, 1079, 1080, 1081, 5, 1082, 695, 700, 701, 702, 703, 146, 1835, 1836, 1837, 1838, 130, 1884, 1885, 1886, 1887, 2065, 2066, 2067, 2068, 2069, 2070, 2071, 2072, 2073, 2074, 2075, 2076, 2077, 2078, 2079, 2080, 2081, 2082, 2083, 2084, 2085, 2086] (by decide +kernel) (by decide +kernel)) (goodIn_sub (fun _ h => List.mem_append_left _ (List.mem_append_left _ (List.mem_append_left _ (List.mem_append_right _ h)))) (by decide +kernel))
set_option maxRecDepth 20000 in
theorem gL_law_X10_writeRecords : GoodIn wsL_law (wsV RL 376 RX10 yX10_writeRecords wsX10_writeRecords) := goodIn_app (goodIn_of _ (by decide +kernel)) ggL_law_X10_writeRecords
set_option maxRecDepth 20000 in
theorem ggL_law_L_outputByte : GoodIn wsL_law wsL_outputByte := goodIn_ca (goodIn_ca (goodIn_r _ [1890, 156, 1891, 1892, 1893, 2, 1894, 161, 162, 19, 1818, 1819, 1820, 18, 1821, 1822, 1823, 1715, 1824, 40, 1825, 1721, 1895, 1896, 1897, 1898, 1899, 1900, 1901, 1902, 46, 45, 1903, 550, 538, 551, 1904, 278, 253, 279, 280, 281, 282, 283, 284, 1905, 296, 49, 297, 298, 299, 300, 291, 292, 293, 2057, 2058, 2059, 2060, 2061, 2062, 2063, 2064, 2087, 2088, 2089, 2090] (by decide +kernel) (by decide +kernel)) (goodIn_sub (fun _ h => List.mem_append_left _ (List.mem_append_left _ (List.mem_append_left _ (List.mem_append_right _ h)))) (by decide +kernel))) (goodIn_sub (fun _ h => List.mem_append_left _ (List.mem_append_left _ (List.mem_append_right _ h))) (by decide +kernel))
set_option maxRecDepth 20000 in
theorem gL_law_L_outputByte : GoodIn wsL_law (va_wsS RL 377 yL_outputByte wsL_outputByte) := goodIn_app (goodIn_of _ (by decide +kernel)) ggL_law_L_outputByte
set_option maxRecDepth 20000 in
theorem ggL_law_X10_outputByte : GoodIn wsL_law wsX10_outputByte := goodIn_ca (goodIn_r _ [1909, 1830, 130, 697, 698, 5, 699, 700, 701, 702, 703, 146, 2065, 2066, 2067, 2068, 2069, 2070, 2071, 2072, 2073, 2074, 2075, 2076, 2077, 2078, 2079, 2080, 2081, 2082, 2083, 2084, 2085, 2086] (by decide +kernel) (by decide +kernel)) (goodIn_sub (fun _ h => List.mem_append_left _ (List.mem_append_left _ (List.mem_append_left _ (List.mem_append_right _ h)))) (by decide +kernel))
set_option maxRecDepth 20000 in
theorem gL_law_X10_outputByte : GoodIn wsL_law (wsV RL 379 RX10 yX10_outputByte wsX10_outputByte) := goodIn_app (goodIn_of _ (by decide +kernel)) ggL_law_X10_outputByte
set_option maxRecDepth 20000 in
theorem ggL_law_L_advance : GoodIn wsL_law wsL_advance := goodIn_ca (goodIn_ca (goodIn_ca (goodIn_r _ [1912, 1058, 1913, 1914, 1915, 2, 1916, 163, 164, 32, 23, 1289, 1338, 1065, 1066, 1067, 1068, 1069, 1070, 34, 1917, 1918, 1919, 31, 1920, 115, 1921, 682, 1922, 550, 538, 551, 1923, 1924, 1925, 1926, 652, 653, 22, 654, 61, 65, 69, 70, 71, 72, 73, 74, 183, 184, 185, 186, 187, 188, 655, 656, 657, 60, 658, 78, 79, 80, 81, 193, 194, 195, 196, 197, 198, 199, 200, 201, 659, 660, 661, 662, 663, 664, 665, 666, 667, 668, 64, 669, 210, 211, 212, 213, 214, 215, 216, 217, 218, 670, 671, 672, 68, 673, 88, 89, 223, 1598, 503, 504, 505, 506, 507, 508, 509, 510, 368, 511, 512, 513, 514, 515, 516, 232, 233, 517, 518, 519, 520, 369, 430, 521, 522, 523, 524, 525, 526, 527, 140, 141, 528, 529, 530, 531, 532, 533, 534, 535, 536, 537, 539, 387, 388, 389, 390, 396, 397, 398, 399, 540, 541, 542, 543, 370, 544, 545, 546, 547, 548, 549, 371, 372, 373, 374, 375, 376, 377, 378, 379, 380, 381, 382, 552, 553, 554, 555, 556, 557, 558, 559, 560, 561, 562, 563, 564, 565, 566, 567, 568, 569, 570, 452, 453, 454, 571, 572, 573, 574, 575, 576, 577, 578, 579, 580, 581, 582, 583, 584, 585, 586, 587, 588, 589, 590, 448, 449, 450, 591, 427, 428, 429, 395, 592, 593, 594, 595, 596, 597, 598, 599, 600, 601, 602, 603, 604, 605, 606, 607, 608, 609, 610, 611, 365, 366, 367, 383, 384, 385, 386, 391, 392, 393, 394, 400, 401, 402, 403, 2057, 2058, 2059, 2060, 2061, 2062, 2063, 2064, 2091, 2092, 2093, 2094, 2095, 2096, 2097, 2098, 2099, 2100, 2101, 2102, 2103, 2104, 2134, 2135, 2136, 2137, 2138, 2139, 2140, 2141, 2142, 2116, 2117, 2118, 2119, 2120, 2121, 2122, 2123, 2124, 2125, 2126, 2127, 2128, 2129, 2130, 2131, 2132, 2133, 2143, 2144, 2145] (by decide +kernel) (by decide +kernel)) (goodIn_sub (fun _ h => List.mem_append_left _ (List.mem_append_left _ (List.mem_append_left _ (List.mem_append_right _ h)))) (by decide +kernel))) (goodIn_sub (fun _ h => List.mem_append_left _ (List.mem_append_right _ h)) (by decide +kernel))) (goodIn_sub (fun _ h => List.mem_append_right _ h) (by decide +kernel))
set_option maxRecDepth 20000 in
theorem gL_law_L_advance : GoodIn wsL_law (va_wsS RL 380 yL_advance wsL_advance) := goodIn_app (goodIn_of _ (by decide +kernel)) ggL_law_L_advance
set_option maxRecDepth 20000 in
theorem ggL_law_X10_advance : GoodIn wsL_law wsX10_advance := goodIn_ca (goodIn_r _ [1930, 695, 122, 697, 698, 5, 699, 1194, 1195, 1196, 1197, 700, 701, 702, 703, 146, 1931, 1932, 1933, 1934, 696, 124, 708, 709, 710, 930, 931, 932, 933, 934, 935, 936, 937, 938, 939, 940, 941, 942, 943, 944, 945, 790, 791, 792, 793, 838, 839, 840, 841, 946, 947, 948, 949, 950, 951, 952, 953, 954, 537, 538, 539, 783, 784, 785, 955, 956, 957, 958, 959, 960, 961, 962, 963, 550, 551, 878, 879, 880, 881, 882, 883, 884, 885, 886, 887, 888, 889, 964, 965, 966, 967, 968, 969, 970, 971, 972, 973, 974, 975, 898, 899, 900, 901, 976, 977, 978, 979, 834, 835, 836, 837, 980, 981, 982, 983, 984, 985, 986, 987, 988, 588, 589, 989, 990, 991, 992, 993, 994, 995, 996, 997, 998, 999, 1000, 1001, 1002, 1003, 1004, 1005, 1006, 1007, 1008, 874, 875, 876, 877, 890, 891, 892, 893, 894, 895, 896, 897, 902, 903, 904, 905, 2065, 2066, 2067, 2068, 2069, 2070, 2071, 2072, 2073, 2074, 2075, 2076, 2077, 2078, 2079, 2080, 2081, 2082, 2083, 2084, 2085, 2086] (by decide +kernel) (by decide +kernel)) (goodIn_sub (fun _ h => List.mem_append_left _ (List.mem_append_left _ (List.mem_append_left _ (List.mem_append_right _ h)))) (by decide +kernel))
set_option maxRecDepth 20000 in
theorem gL_law_X10_advance : GoodIn wsL_law (wsV RL 382 RX10 yX10_advance wsX10_advance) := goodIn_app (goodIn_of _ (by decide +kernel)) ggL_law_X10_advance
set_option maxRecDepth 20000 in
theorem ggL_law_L_setPace : GoodIn wsL_law wsL_setPace := goodIn_ca (goodIn_ca (goodIn_ca (goodIn_r _ [1937, 1058, 1938, 1939, 1940, 2, 1941, 32, 23, 1265, 1065, 1066, 1067, 1068, 1069, 1070, 34, 1665, 1666, 1667, 1668, 163, 164, 1917, 1918, 1919, 31, 1920, 115, 1921, 682, 1922, 550, 538, 551, 1923, 1924, 1925, 1926, 652, 653, 22, 654, 61, 65, 69, 70, 71, 72, 73, 74, 183, 184, 185, 186, 187, 188, 655, 656, 657, 60, 658, 78, 79, 80, 81, 193, 194, 195, 196, 197, 198, 199, 200, 201, 659, 660, 661, 662, 663, 664, 665, 666, 667, 668, 64, 669, 210, 211, 212, 213, 214, 215, 216, 217, 218, 670, 671, 672, 68, 673, 88, 89, 223, 2057, 2058, 2059, 2060, 2061, 2062, 2063, 2064, 2091, 2092, 2093, 2094, 2095, 2096, 2097, 2098, 2099, 2100, 2101, 2102, 2103, 2104, 2116, 2117, 2118, 2119, 2120, 2121, 2122, 2123, 2124, 2125, 2126, 2127, 2128, 2129, 2130, 2131, 2132, 2133, 2134, 2135, 2136, 2137, 2138, 2139, 2140, 2141, 2142, 2143, 2144, 2145] (by decide +kernel) (by decide +kernel)) (goodIn_sub (fun _ h => List.mem_append_left _ (List.mem_append_left _ (List.mem_append_left _ (List.mem_append_right _ h)))) (by decide +kernel))) (goodIn_sub (fun _ h => List.mem_append_right _ h) (by decide +kernel))) (goodIn_sub (fun _ h => List.mem_append_left _ (List.mem_append_right _ h)) (by decide +kernel))
set_option maxRecDepth 20000 in
theorem gL_law_L_setPace : GoodIn wsL_law (va_wsS RL 383 yL_setPace wsL_setPace) := goodIn_app (goodIn_of _ (by decide +kernel)) ggL_law_L_setPace
set_option maxRecDepth 20000 in
theorem ggL_law_X10_setPace : GoodIn wsL_law wsX10_setPace := goodIn_ca (goodIn_r _ [1945, 695, 122, 1673, 1674, 5, 1675, 697, 698, 699, 1194, 1195, 1196, 1197, 700, 701, 702, 703, 146, 1931, 1932, 1933, 1934, 696, 124, 708, 709, 710, 2065, 2066, 2067, 2068, 2069, 2070, 2071, 2072, 2073, 2074, 2075, 2076, 2077, 2078, 2079, 2080, 2081, 2082, 2083, 2084, 2085, 2086] (by decide +kernel) (by decide +kernel)) (goodIn_sub (fun _ h => List.mem_append_left _ (List.mem_append_left _ (List.mem_append_left _ (List.mem_append_right _ h)))) (by decide +kernel))
set_option maxRecDepth 20000 in
theorem gL_law_X10_setPace : GoodIn wsL_law (wsV RL 385 RX10 yX10_setPace wsX10_setPace) := goodIn_app (goodIn_of _ (by decide +kernel)) ggL_law_X10_setPace
set_option maxRecDepth 20000 in
theorem ggL_law_L_setCurtain : GoodIn wsL_law wsL_setCurtain := goodIn_ca (goodIn_ca (goodIn_ca (goodIn_r _ [1948, 1058, 1949, 1950, 1951, 2, 1952, 32, 23, 1205, 1065, 1066, 1067, 1068, 1069, 1070, 34, 1206, 1207, 1208, 1209, 161, 162, 1063, 1090, 1917, 1918, 1919, 31, 1920, 115, 1921, 682, 1922, 550, 538, 551, 1923, 1924, 1925, 1926, 652, 653, 22, 654, 61, 65, 69, 70, 71, 72, 73, 74, 183, 184, 185, 186, 187, 188, 655, 656, 657, 60, 658, 78, 79, 80, 81, 193, 194, 195, 196, 197, 198, 199, 200, 201, 659, 660, 661, 662, 663, 664, 665, 666, 667, 668, 64, 669, 210, 211, 212, 213, 214, 215, 216, 217, 218, 670, 671, 672, 68, 673, 88, 89, 223, 1210, 232, 233, 139, 140, 141, 2057, 2058, 2059, 2060, 2061, 2062, 2063, 2064, 2091, 2092, 2093, 2094, 2095, 2096, 2097, 2098, 2099, 2100, 2101, 2102, 2103, 2104, 2121, 2122, 2123, 2124, 2125, 2126, 2127, 2128, 2129, 2130, 2131, 2132, 2133, 2116, 2117, 2118, 2119, 2120, 2134, 2135, 2136, 2137, 2138, 2139, 2140, 2141, 2142, 2143, 2144, 2145] (by decide +kernel) (by decide +kernel)) (goodIn_sub (fun _ h => List.mem_append_left _ (List.mem_append_left _ (List.mem_append_left _ (List.mem_append_right _ h)))) (by decide +kernel))) (goodIn_sub (fun _ h => List.mem_append_right _ h) (by decide +kernel))) (goodIn_sub (fun _ h => List.mem_append_left _ (List.mem_append_left _ (List.mem_append_right _ h))) (by decide +kernel))
set_option maxRecDepth 20000 in
theorem gL_law_L_setCurtain : GoodIn wsL_law (va_wsS RL 386 yL_setCurtain wsL_setCurtain) := goodIn_app (goodIn_of _ (by decide +kernel)) ggL_law_L_setCurtain
set_option maxRecDepth 20000 in
theorem ggL_law_X10_setCurtain : GoodIn wsL_law wsX10_setCurtain := goodIn_ca (goodIn_r _ [1956, 695, 122, 1215, 1216, 1217, 5, 1218, 697, 698, 699, 1194, 1195, 1196, 1197, 700, 701, 702, 703, 146, 1931, 1932, 1933, 1934, 696, 124, 708, 709, 710, 898, 899, 900, 901, 783, 784, 785, 2065, 2066, 2067, 2068, 2069, 2070, 2071, 2072, 2073, 2074, 2075, 2076, 2077, 2078, 2079, 2080, 2081, 2082, 2083, 2084, 2085, 2086] (by decide +kernel) (by decide +kernel)) (goodIn_sub (fun _ h => List.mem_append_left _ (List.mem_append_left _ (List.mem_append_left _ (List.mem_append_right _ h)))) (by decide +kernel))
set_option maxRecDepth 20000 in
theorem gL_law_X10_setCurtain : GoodIn wsL_law (wsV RL 389 RX10 yX10_setCurtain wsX10_setCurtain) := goodIn_app (goodIn_of _ (by decide +kernel)) ggL_law_X10_setCurtain
set_option maxRecDepth 20000 in
theorem ggL_law_L_placeBowl : GoodIn wsL_law wsL_placeBowl := goodIn_ca (goodIn_ca (goodIn_ca (goodIn_ca (goodIn_r _ [1959, 1058, 1960, 1961, 1962, 2, 1963, 163, 164, 23, 32, 1453, 1065, 1066, 1067, 1068, 1069, 1070, 34, 1174, 1175, 1176, 1177, 161, 162, 684, 448, 449, 22, 450, 61, 430, 369, 1964, 452, 453, 454, 73, 72, 232, 233, 1917, 1918, 1919, 31, 1920, 115, 1921, 682, 1922, 550, 538, 551, 1923, 1924, 1925, 1926, 652, 653, 654, 65, 69, 70, 71, 74, 183, 184, 185, 186, 187, 188, 655, 656, 657, 60, 658, 78, 79, 80, 81, 193, 194, 195, 196, 197, 198, 199, 200, 201, 659, 660, 661, 662, 663, 664, 665, 666, 667, 668, 64, 669, 210, 211, 212, 213, 214, 215, 216, 217, 218, 670, 671, 672, 68, 673, 88, 89, 223, 139, 140, 141, 1477, 496, 497, 2057, 2058, 2059, 2060, 2061, 2062, 2063, 2064, 2091, 2092, 2093, 2094, 2095, 2096, 2097, 2098, 2099, 2100, 2101, 2102, 2103, 2104, 2121, 2122, 2123, 2124, 2125, 2126, 2127, 2128, 2129, 2130, 2131, 2132, 2133, 2116, 2117, 2118, 2119, 2120, 2134, 2135, 2136, 2137, 2138, 2139, 2140, 2141, 2142, 2143, 2144, 2145] (by decide +kernel) (by decide +kernel)) (goodIn_sub (fun _ h => List.mem_append_left _ (List.mem_append_left _ (List.mem_append_left _ (List.mem_append_right _ h)))) (by decide +kernel))) (goodIn_sub (fun _ h => List.mem_append_left _ (List.mem_append_right _ h)) (by decide +kernel))) (goodIn_sub (fun _ h => List.mem_append_right _ h) (by decide +kernel))) (goodIn_sub (fun _ h => List.mem_append_left _ (List.mem_append_left _ (List.mem_append_right _ h))) (by decide +kernel))
set_option maxRecDepth 20000 in
theorem gL_law_L_placeBowl : GoodIn wsL_law (va_wsS RL 390 yL_placeBowl wsL_placeBowl) := goodIn_app (goodIn_of _ (by decide +kernel)) ggL_law_L_placeBowl
set_option maxRecDepth 20000 in
theorem ggL_law_X10_placeBowl : GoodIn wsL_law wsX10_placeBowl := goodIn_ca (goodIn_r _ [1968, 695, 122, 1190, 1191, 1192, 5, 1193, 790, 791, 792, 793, 697, 698, 699, 834, 835, 836, 837, 700, 701, 702, 703, 146, 1931, 1932, 1933, 1934, 696, 124, 708, 709, 710, 1969, 1970, 1971, 1972, 2065, 2066, 2067, 2068, 2069, 2070, 2071, 2072, 2073, 2074, 2075, 2076, 2077, 2078, 2079, 2080, 2081, 2082, 2083, 2084, 2085, 2086] (by decide +kernel) (by decide +kernel)) (goodIn_sub (fun _ h => List.mem_append_left _ (List.mem_append_left _ (List.mem_append_left _ (List.mem_append_right _ h)))) (by decide +kernel))
set_option maxRecDepth 20000 in
theorem gL_law_X10_placeBowl : GoodIn wsL_law (wsV RL 392 RX10 yX10_placeBowl wsX10_placeBowl) := goodIn_app (goodIn_of _ (by decide +kernel)) ggL_law_X10_placeBowl
set_option maxRecDepth 20000 in
theorem ggL_law_L_mop : GoodIn wsL_law wsL_mop := goodIn_ca (goodIn_ca (goodIn_ca (goodIn_ca (goodIn_r _ [1975, 1058, 1976, 1977, 1978, 2, 1979, 163, 164, 23, 1465, 32, 1065, 1066, 1067, 1068, 1069, 1070, 34, 1174, 1175, 1176, 1177, 161, 162, 684, 448, 449, 22, 450, 61, 430, 369, 1210, 232, 233, 1917, 1918, 1919, 31, 1920, 115, 1921, 682, 1922, 550, 538, 551, 1923, 1924, 1925, 1926, 652, 653, 654, 65, 69, 70, 71, 72, 73, 74, 183, 184, 185, 186, 187, 188, 655, 656, 657, 60, 658, 78, 79, 80, 81, 193, 194, 195, 196, 197, 198, 199, 200, 201, 659, 660, 661, 662, 663, 664, 665, 666, 667, 668, 64, 669, 210, 211, 212, 213, 214, 215, 216, 217, 218, 670, 671, 672, 68, 673, 88, 89, 223, 139, 140, 141, 2057, 2058, 2059, 2060, 2061, 2062, 2063, 2064, 2091, 2092, 2093, 2094, 2095, 2096, 2097, 2098, 2099, 2100, 2101, 2102, 2103, 2104, 2121, 2122, 2123, 2124, 2125, 2126, 2127, 2128, 2129, 2130, 2131, 2132, 2133, 2116, 2117, 2118, 2119, 2120, 2134, 2135, 2136, 2137, 2138, 2139, 2140, 2141, 2142, 2143, 2144, 2145] (by decide +kernel) (by decide +kernel)) (goodIn_sub (fun _ h => List.mem_append_left _ (List.mem_append_left _ (List.mem_append_left _ (List.mem_append_right _ h)))) (by decide +kernel))) (goodIn_sub (fun _ h => List.mem_append_left _ (List.mem_append_right _ h)) (by decide +kernel))) (goodIn_sub (fun _ h => List.mem_append_right _ h) (by decide +kernel))) (goodIn_sub (fun _ h => List.mem_append_left _ (List.mem_append_left _ (List.mem_append_right _ h))) (by decide +kernel))
set_option maxRecDepth 20000 in
theorem gL_law_L_mop : GoodIn wsL_law (va_wsS RL 393 yL_mop wsL_mop) := goodIn_app (goodIn_of _ (by decide +kernel)) ggL_law_L_mop
set_option maxRecDepth 20000 in
theorem ggL_law_X10_mop : GoodIn wsL_law wsX10_mop := goodIn_ca (goodIn_r _ [1983, 695, 122, 1190, 1191, 1192, 5, 1193, 790, 791, 792, 793, 697, 698, 699, 838, 839, 840, 841, 700, 701, 702, 703, 146, 1931, 1932, 1933, 1934, 696, 124, 708, 709, 710, 2065, 2066, 2067, 2068, 2069, 2070, 2071, 2072, 2073, 2074, 2075, 2076, 2077, 2078, 2079, 2080, 2081, 2082, 2083, 2084, 2085, 2086] (by decide +kernel) (by decide +kernel)) (goodIn_sub (fun _ h => List.mem_append_left _ (List.mem_append_left _ (List.mem_append_left _ (List.mem_append_right _ h)))) (by decide +kernel))
set_option maxRecDepth 20000 in
theorem gL_law_X10_mop : GoodIn wsL_law (wsV RL 395 RX10 yX10_mop wsX10_mop) := goodIn_app (goodIn_of _ (by decide +kernel)) ggL_law_X10_mop
set_option maxRecDepth 20000 in
theorem ggL_law_L_turnWalker : GoodIn wsL_law wsL_turnWalker := goodIn_ca (goodIn_ca (goodIn_r _ [1986, 1058, 1987, 1988, 1989, 2, 1990, 32, 23, 1289, 1302, 1065, 1066, 1067, 1068, 1069, 1070, 34, 1917, 1918, 1919, 31, 1920, 115, 1921, 682, 1922, 550, 538, 551, 1923, 1924, 1925, 1926, 652, 653, 22, 654, 61, 65, 69, 70, 71, 72, 73, 74, 183, 184, 185, 186, 187, 188, 655, 656, 657, 60, 658, 78, 79, 80, 81, 193, 194, 195, 196, 197, 198, 199, 200, 201, 659, 660, 661, 662, 663, 664, 665, 666, 667, 668, 64, 669, 210, 211, 212, 213, 214, 215, 216, 217, 218, 670, 671, 672, 68, 673, 88, 89, 223, 2057, 2058, 2059, 2060, 2061, 2062, 2063, 2064, 2091, 2092, 2093, 2094, 2095, 2096, 2097, 2098, 2099, 2100, 2101, 2102, 2103, 2104, 2134, 2135, 2136, 2137, 2138, 2139, 2140, 2141, 2142, 2116, 2117, 2118, 2119, 2120, 2121, 2122, 2123, 2124, 2125, 2126, 2127, 2128, 2129, 2130, 2131, 2132, 2133, 2143, 2144, 2145] (by decide +kernel) (by decide +kernel)) (goodIn_sub (fun _ h => List.mem_append_left _ (List.mem_append_left _ (List.mem_append_left _ (List.mem_append_right _ h)))) (by decide +kernel))) (goodIn_sub (fun _ h => List.mem_append_right _ h) (by decide +kernel))
set_option maxRecDepth 20000 in
theorem gL_law_L_turnWalker : GoodIn wsL_law (va_wsS RL 396 yL_turnWalker wsL_turnWalker) := goodIn_app (goodIn_of _ (by decide +kernel)) ggL_law_L_turnWalker
set_option maxRecDepth 20000 in
theorem ggL_law_X10_turnWalker : GoodIn wsL_law wsX10_turnWalker := goodIn_ca (goodIn_r _ [1994, 122, 1079, 1080, 1081, 5, 1082, 695, 700, 701, 702, 703, 146, 1931, 1932, 1933, 1934, 696, 124, 708, 709, 710, 2065, 2066, 2067, 2068, 2069, 2070, 2071, 2072, 2073, 2074, 2075, 2076, 2077, 2078, 2079, 2080, 2081, 2082, 2083, 2084, 2085, 2086] (by decide +kernel) (by decide +kernel)) (goodIn_sub (fun _ h => List.mem_append_left _ (List.mem_append_left _ (List.mem_append_left _ (List.mem_append_right _ h)))) (by decide +kernel))
set_option maxRecDepth 20000 in
theorem gL_law_X10_turnWalker : GoodIn wsL_law (wsV RL 398 RX10 yX10_turnWalker wsX10_turnWalker) := goodIn_app (goodIn_of _ (by decide +kernel)) ggL_law_X10_turnWalker
set_option maxRecDepth 20000 in
theorem ggL_law_L_undo : GoodIn wsL_law wsL_undo := goodIn_ca (goodIn_ca (goodIn_r _ [1997, 1058, 1998, 1999, 2000, 2, 2001, 1069, 1070, 32, 23, 2002, 2003, 2004, 2005, 31, 2006, 1921, 115, 682, 1923, 1924, 1925, 1926, 652, 653, 22, 654, 61, 65, 69, 70, 71, 72, 73, 74, 183, 184, 185, 186, 187, 188, 655, 656, 657, 60, 658, 78, 79, 80, 81, 193, 194, 195, 196, 197, 198, 199, 200, 201, 659, 660, 661, 550, 538, 551, 662, 663, 664, 665, 666, 667, 668, 64, 669, 210, 211, 212, 213, 214, 215, 216, 217, 218, 670, 671, 672, 68, 673, 88, 89, 223, 2057, 2058, 2059, 2060, 2061, 2062, 2063, 2064, 2116, 2117, 2118, 2119, 2120, 2091, 2092, 2093, 2094, 2095, 2096, 2097, 2098, 2099, 2100, 2101, 2102, 2103, 2104, 2121, 2122, 2123, 2124, 2125, 2126, 2127, 2128, 2129, 2130, 2131, 2132, 2133, 2134, 2135, 2136, 2137, 2138, 2139, 2140, 2141, 2142, 2143, 2144, 2145] (by decide +kernel) (by decide +kernel)) (goodIn_sub (fun _ h => List.mem_append_left _ (List.mem_append_left _ (List.mem_append_left _ (List.mem_append_right _ h)))) (by decide +kernel))) (goodIn_sub (fun _ h => List.mem_append_right _ h) (by decide +kernel))
set_option maxRecDepth 20000 in
theorem gL_law_L_undo : GoodIn wsL_law (va_wsS RL 399 yL_undo wsL_undo) := goodIn_app (goodIn_of _ (by decide +kernel)) ggL_law_L_undo
set_option maxRecDepth 20000 in
theorem ggL_law_X10_undo : GoodIn wsL_law wsX10_undo := goodIn_ca (goodIn_r _ [2010, 696, 124, 122, 700, 701, 702, 5, 703, 146, 708, 709, 710, 2065, 2066, 2067, 2068, 2069, 2070, 2071, 2072, 2073, 2074, 2075, 2076, 2077, 2078, 2079, 2080, 2081, 2082, 2083, 2084, 2085, 2086] (by decide +kernel) (by decide +kernel)) (goodIn_sub (fun _ h => List.mem_append_left _ (List.mem_append_left _ (List.mem_append_left _ (List.mem_append_right _ h)))) (by decide +kernel))
set_option maxRecDepth 20000 in
theorem gL_law_X10_undo : GoodIn wsL_law (wsV RL 401 RX10 yX10_undo wsX10_undo) := goodIn_app (goodIn_of _ (by decide +kernel)) ggL_law_X10_undo
set_option maxRecDepth 20000 in
theorem ggL_law_X9_undoCount : GoodIn wsL_law wsX9_undoCount := goodIn_r _ [2014, 32, 2002, 2057, 2058, 2059, 2060, 2061, 2062, 2063, 2064, 2116, 2117, 2118, 2119, 2120] (by decide +kernel) (by decide +kernel)
set_option maxRecDepth 20000 in
theorem gL_law_X9_undoCount : GoodIn wsL_law (wsV RL 402 RX9 yX9_undoCount wsX9_undoCount) := goodIn_app (goodIn_of _ (by decide +kernel)) ggL_law_X9_undoCount
set_option maxRecDepth 20000 in
theorem ggL_law_X10_undoCount : GoodIn wsL_law wsX10_undoCount := goodIn_r _ [2018, 146, 696, 2065, 2066, 2067, 2068, 2069, 2070, 2071, 2072, 2073, 2074, 2075, 2076, 2077, 2078, 2079, 2080, 2081, 2082, 2083, 2084, 2085, 2086] (by decide +kernel) (by decide +kernel)
set_option maxRecDepth 20000 in
theorem gL_law_X10_undoCount : GoodIn wsL_law (wsV RL 405 RX10 yX10_undoCount wsX10_undoCount) := goodIn_app (goodIn_of _ (by decide +kernel)) ggL_law_X10_undoCount
set_option maxRecDepth 20000 in
theorem ggL_law_L_saveState : GoodIn wsL_law wsL_saveState := goodIn_ca (goodIn_ca (goodIn_ca (goodIn_r _ [2021, 1058, 2022, 2023, 2024, 2, 2025, 32, 23, 1114, 1065, 1066, 1067, 1068, 1069, 1070, 34, 2026, 2027, 2028, 2029, 161, 162, 2030, 2031, 2032, 31, 2033, 116, 117, 1923, 1924, 1925, 1926, 652, 653, 22, 654, 61, 65, 69, 70, 71, 72, 73, 74, 183, 184, 185, 186, 187, 188, 655, 656, 657, 60, 658, 78, 79, 80, 81, 193, 194, 195, 196, 197, 198, 199, 200, 201, 659, 660, 661, 550, 538, 551, 662, 663, 664, 665, 666, 667, 668, 64, 669, 210, 211, 212, 213, 214, 215, 216, 217, 218, 670, 671, 672, 68, 673, 88, 89, 223, 140, 141, 2057, 2058, 2059, 2060, 2061, 2062, 2063, 2064, 2091, 2092, 2093, 2094, 2095, 2096, 2097, 2098, 2099, 2100, 2101, 2102, 2103, 2104, 2116, 2117, 2118, 2119, 2120, 2121, 2122, 2123, 2124, 2125, 2126, 2127, 2128, 2129, 2130, 2131, 2132, 2133, 2134, 2135, 2136, 2137, 2138, 2139, 2140, 2141, 2142, 2143, 2144, 2145] (by decide +kernel) (by decide +kernel)) (goodIn_sub (fun _ h => List.mem_append_left _ (List.mem_append_left _ (List.mem_append_left _ (List.mem_append_right _ h)))) (by decide +kernel))) (goodIn_sub (fun _ h => List.mem_append_right _ h) (by decide +kernel))) (goodIn_sub (fun _ h => List.mem_append_left _ (List.mem_append_left _ (List.mem_append_right _ h))) (by decide +kernel))
set_option maxRecDepth 20000 in
theorem gL_law_L_saveState : GoodIn wsL_law (va_wsS RL 406 yL_saveState wsL_saveState) := goodIn_app (goodIn_of _ (by decide +kernel)) ggL_law_L_saveState
set_option maxRecDepth 20000 in
theorem ggL_law_X10_saveState : GoodIn wsL_law wsX10_saveState := goodIn_ca (goodIn_r _ [2037, 695, 122, 125, 127, 2038, 2039, 5, 2040, 697, 698, 699, 1194, 1195, 1196, 1197, 700, 701, 702, 703, 146, 708, 709, 710, 2065, 2066, 2067, 2068, 2069, 2070, 2071, 2072, 2073, 2074, 2075, 2076, 2077, 2078, 2079, 2080, 2081, 2082, 2083, 2084, 2085, 2086] (by decide +kernel) (by decide +kernel)) (goodIn_sub (fun _ h => List.mem_append_left _ (List.mem_append_left _ (List.mem_append_left _ (List.mem_append_right _ h)))) (by decide +kernel))
set_option maxRecDepth 20000 in
theorem gL_law_X10_saveState : GoodIn wsL_law (wsV RL 408 RX10 yX10_saveState wsX10_saveState) := goodIn_app (goodIn_of _ (by decide +kernel)) ggL_law_X10_saveState
set_option maxRecDepth 20000 in
theorem ggL_law_L_restoreState : GoodIn wsL_law wsL_restoreState := goodIn_ca (goodIn_ca (goodIn_ca (goodIn_r _ [2043, 156, 2044, 2045, 2046, 2, 2047, 1069, 1070, 32, 23, 1114, 2026, 2027, 2028, 2029, 161, 162, 2048, 2049, 2050, 31, 2051, 116, 117, 1923, 1924, 1925, 232, 233, 1926, 652, 653, 22, 654, 61, 65, 69, 70, 71, 72, 73, 74, 183, 184, 185, 186, 187, 188, 655, 656, 657, 60, 658, 78, 79, 80, 81, 193, 194, 195, 196, 197, 198, 199, 200, 201, 659, 660, 661, 550, 538, 551, 662, 663, 664, 665, 666, 667, 668, 64, 669, 210, 211, 212, 213, 214, 215, 216, 217, 218, 670, 671, 672, 68, 673, 88, 89, 223, 2052, 679, 680, 681, 682, 2057, 2058, 2059, 2060, 2061, 2062, 2063, 2064, 2091, 2092, 2093, 2094, 2095, 2096, 2097, 2098, 2099, 2100, 2101, 2102, 2103, 2104, 2116, 2117, 2118, 2119, 2120, 2121, 2122, 2123, 2124, 2125, 2126, 2127, 2128, 2129, 2130, 2131, 2132, 2133, 2134, 2135, 2136, 2137, 2138, 2139, 2140, 2141, 2142, 2143, 2144, 2145] (by decide +kernel) (by decide +kernel)) (goodIn_sub (fun _ h => List.mem_append_left _ (List.mem_append_left _ (List.mem_append_left _ (List.mem_append_right _ h)))) (by decide +kernel))) (goodIn_sub (fun _ h => List.mem_append_right _ h) (by decide +kernel))) (goodIn_sub (fun _ h => List.mem_append_left _ (List.mem_append_left _ (List.mem_append_right _ h))) (by decide +kernel))
set_option maxRecDepth 20000 in
theorem gL_law_L_restoreState : GoodIn wsL_law (va_wsS RL 409 yL_restoreState wsL_restoreState) := goodIn_app (goodIn_of _ (by decide +kernel)) ggL_law_L_restoreState
set_option maxRecDepth 20000 in
theorem ggL_law_X10_restoreState : GoodIn wsL_law wsX10_restoreState := goodIn_ca (goodIn_r _ [2056, 127, 125, 122, 696, 2038, 2039, 5, 2040, 697, 698, 699, 1194, 1195, 1196, 1197, 700, 701, 702, 703, 146, 708, 709, 710, 2065, 2066, 2067, 2068, 2069, 2070, 2071, 2072, 2073, 2074, 2075, 2076, 2077, 2078, 2079, 2080, 2081, 2082, 2083, 2084, 2085, 2086] (by decide +kernel) (by decide +kernel)) (goodIn_sub (fun _ h => List.mem_append_left _ (List.mem_append_left _ (List.mem_append_left _ (List.mem_append_right _ h)))) (by decide +kernel))
set_option maxRecDepth 20000 in
theorem gL_law_X10_restoreState : GoodIn wsL_law (wsV RL 411 RX10 yX10_restoreState wsX10_restoreState) := goodIn_app (goodIn_of _ (by decide +kernel)) ggL_law_X10_restoreState
theorem dL_law_0 : decode cL_law 0 = .ok (.new 8, 3) := by decide +kernel
theorem dL_law_3 : decode cL_law 3 = .ok (.dup, 1) := by decide +kernel
theorem dL_law_4 : decode cL_law 4 = .ok (.invokespecial 200, 3) := by decide +kernel
theorem dL_law_7 : decode cL_law 7 = .ok (.astore_n 1, 1) := by decide +kernel
theorem dL_law_8 : decode cL_law 8 = .ok (.new 201, 3) := by decide +kernel
theorem dL_law_11 : decode cL_law 11 = .ok (.dup, 1) := by decide +kernel
theorem dL_law_12 : decode cL_law 12 = .ok (.invokespecial 203, 3) := by decide +kernel
theorem dL_law_15 : decode cL_law 15 = .ok (.astore_n 2, 1) := by decide +kernel
theorem dL_law_16 : decode cL_law 16 = .ok (.iconst 1, 1) := by decide +kernel
theorem dL_law_17 : decode cL_law 17 = .ok (.newarray .long, 2) := by decide +kernel
theorem dL_law_19 : decode cL_law 19 = .ok (.astore_n 3, 1) := by decide +kernel
theorem dL_law_20 : decode cL_law 20 = .ok (.iconst 1, 1) := by decide +kernel
theorem dL_law_21 : decode cL_law 21 = .ok (.newarray .double, 2) := by decide +kernel
theorem dL_law_23 : decode cL_law 23 = .ok (.astore 4, 2) := by decide +kernel
theorem dL_law_25 : decode cL_law 25 = .ok (.iconst 0, 1) := by decide +kernel
theorem dL_law_26 : decode cL_law 26 = .ok (.istore 5, 2) := by decide +kernel
theorem dL_law_28 : decode cL_law 28 = .ok (.iload 5, 2) := by decide +kernel
theorem dL_law_30 : decode cL_law 30 = .ok (.aload_n 0, 1) := by decide +kernel
theorem dL_law_31 : decode cL_law 31 = .ok (.arraylength, 1) := by decide +kernel
theorem dL_law_32 : decode cL_law 32 = .ok (.bipush 6, 2) := by decide +kernel
theorem dL_law_34 : decode cL_law 34 = .ok (.isub, 1) := by decide +kernel
theorem dL_law_35 : decode cL_law 35 = .ok (.if_icmp .gt 3495, 3) := by decide +kernel
theorem dL_law_38 : decode cL_law 38 = .ok (.aload_n 0, 1) := by decide +kernel
theorem dL_law_39 : decode cL_law 39 = .ok (.iload 5, 2) := by decide +kernel
theorem dL_law_41 : decode cL_law 41 = .ok (.iaload, 1) := by decide +kernel
theorem dL_law_42 : decode cL_law 42 = .ok (.bipush 63, 2) := by decide +kernel
theorem dL_law_44 : decode cL_law 44 = .ok (.iand, 1) := by decide +kernel
theorem dL_law_45 : decode cL_law 45 = .ok (.tableswitch 3479 0 63 #[271, 344, 400, 413, 426, 439, 483, 527, 571, 615, 659, 703, 747, 798, 861, 924, 980, 1036, 1080, 1124, 1168, 1212, 1263, 1307, 1351, 1395, 1439, 1483, 1527, 1571, 1627, 1671, 1734, 1778, 1841, 1897, 1941, 1985, 2041, 2097, 2153, 2197, 2262, 2328, 2384, 2440, 2508, 2564, 2608, 2676, 2732, 2788, 2844, 2888, 2944, 3000, 3056, 3147, 3203, 3259, 3310, 3354, 3367, 3423], 271) := by decide +kernel
theorem dL_law_316 : decode cL_law 316 = .ok (.aload_n 1, 1) := by decide +kernel
theorem dL_law_317 : decode cL_law 317 = .ok (.aload_n 0, 1) := by decide +kernel
theorem dL_law_318 : decode cL_law 318 = .ok (.iload 5, 2) := by decide +kernel
theorem dL_law_320 : decode cL_law 320 = .ok (.iconst 1, 1) := by decide +kernel
theorem dL_law_321 : decode cL_law 321 = .ok (.iadd, 1) := by decide +kernel
theorem dL_law_322 : decode cL_law 322 = .ok (.iaload, 1) := by decide +kernel
theorem dL_law_323 : decode cL_law 323 = .ok (.aload_n 0, 1) := by decide +kernel
theorem dL_law_324 : decode cL_law 324 = .ok (.iload 5, 2) := by decide +kernel
theorem dL_law_326 : decode cL_law 326 = .ok (.iconst 2, 1) := by decide +kernel
theorem dL_law_327 : decode cL_law 327 = .ok (.iadd, 1) := by decide +kernel
theorem dL_law_328 : decode cL_law 328 = .ok (.iaload, 1) := by decide +kernel
theorem dL_law_329 : decode cL_law 329 = .ok (.aload_n 0, 1) := by decide +kernel
theorem dL_law_330 : decode cL_law 330 = .ok (.iload 5, 2) := by decide +kernel
theorem dL_law_332 : decode cL_law 332 = .ok (.iconst 3, 1) := by decide +kernel
theorem dL_law_333 : decode cL_law 333 = .ok (.iadd, 1) := by decide +kernel
theorem dL_law_334 : decode cL_law 334 = .ok (.iaload, 1) := by decide +kernel
theorem dL_law_335 : decode cL_law 335 = .ok (.aload_n 0, 1) := by decide +kernel
theorem dL_law_336 : decode cL_law 336 = .ok (.iload 5, 2) := by decide +kernel
theorem dL_law_338 : decode cL_law 338 = .ok (.iconst 4, 1) := by decide +kernel
theorem dL_law_339 : decode cL_law 339 = .ok (.iadd, 1) := by decide +kernel
theorem dL_law_340 : decode cL_law 340 = .ok (.iaload, 1) := by decide +kernel
theorem dL_law_341 : decode cL_law 341 = .ok (.aload_n 0, 1) := by decide +kernel
theorem dL_law_342 : decode cL_law 342 = .ok (.iload 5, 2) := by decide +kernel
theorem dL_law_344 : decode cL_law 344 = .ok (.iconst 5, 1) := by decide +kernel
theorem dL_law_345 : decode cL_law 345 = .ok (.iadd, 1) := by decide +kernel
theorem dL_law_346 : decode cL_law 346 = .ok (.iaload, 1) := by decide +kernel
theorem dL_law_347 : decode cL_law 347 = .ok (.invokevirtual 204, 3) := by decide +kernel
theorem dL_law_350 : decode cL_law 350 = .ok (.aload_n 2, 1) := by decide +kernel
theorem dL_law_351 : decode cL_law 351 = .ok (.aload_n 0, 1) := by decide +kernel
theorem dL_law_352 : decode cL_law 352 = .ok (.iload 5, 2) := by decide +kernel
theorem dL_law_354 : decode cL_law 354 = .ok (.iconst 1, 1) := by decide +kernel
theorem dL_law_355 : decode cL_law 355 = .ok (.iadd, 1) := by decide +kernel
theorem dL_law_356 : decode cL_law 356 = .ok (.iaload, 1) := by decide +kernel
theorem dL_law_357 : decode cL_law 357 = .ok (.aload_n 0, 1) := by decide +kernel
theorem dL_law_358 : decode cL_law 358 = .ok (.iload 5, 2) := by decide +kernel
theorem dL_law_360 : decode cL_law 360 = .ok (.iconst 2, 1) := by decide +kernel
theorem dL_law_361 : decode cL_law 361 = .ok (.iadd, 1) := by decide +kernel
theorem dL_law_362 : decode cL_law 362 = .ok (.iaload, 1) := by decide +kernel
theorem dL_law_363 : decode cL_law 363 = .ok (.aload_n 0, 1) := by decide +kernel
theorem dL_law_364 : decode cL_law 364 = .ok (.iload 5, 2) := by decide +kernel
theorem dL_law_366 : decode cL_law 366 = .ok (.iconst 3, 1) := by decide +kernel
theorem dL_law_367 : decode cL_law 367 = .ok (.iadd, 1) := by decide +kernel
theorem dL_law_368 : decode cL_law 368 = .ok (.iaload, 1) := by decide +kernel
theorem dL_law_369 : decode cL_law 369 = .ok (.aload_n 0, 1) := by decide +kernel
theorem dL_law_370 : decode cL_law 370 = .ok (.iload 5, 2) := by decide +kernel
theorem dL_law_372 : decode cL_law 372 = .ok (.iconst 4, 1) := by decide +kernel
theorem dL_law_373 : decode cL_law 373 = .ok (.iadd, 1) := by decide +kernel
theorem dL_law_374 : decode cL_law 374 = .ok (.iaload, 1) := by decide +kernel
theorem dL_law_375 : decode cL_law 375 = .ok (.aload_n 0, 1) := by decide +kernel
theorem dL_law_376 : decode cL_law 376 = .ok (.iload 5, 2) := by decide +kernel
theorem dL_law_378 : decode cL_law 378 = .ok (.iconst 5, 1) := by decide +kernel
theorem dL_law_379 : decode cL_law 379 = .ok (.iadd, 1) := by decide +kernel
theorem dL_law_380 : decode cL_law 380 = .ok (.iaload, 1) := by decide +kernel
theorem dL_law_381 : decode cL_law 381 = .ok (.invokevirtual 208, 3) := by decide +kernel
theorem dL_law_384 : decode cL_law 384 = .ok (.if_icmp .eq 3140, 3) := by decide +kernel
theorem dL_law_387 : decode cL_law 387 = .ok (.iconst 0, 1) := by decide +kernel
theorem dL_law_388 : decode cL_law 388 = .ok (.ireturn, 1) := by decide +kernel
theorem dL_law_389 : decode cL_law 389 = .ok (.aload_n 1, 1) := by decide +kernel
theorem dL_law_390 : decode cL_law 390 = .ok (.aload_n 0, 1) := by decide +kernel
theorem dL_law_391 : decode cL_law 391 = .ok (.iload 5, 2) := by decide +kernel
theorem dL_law_393 : decode cL_law 393 = .ok (.iconst 1, 1) := by decide +kernel
theorem dL_law_394 : decode cL_law 394 = .ok (.iadd, 1) := by decide +kernel
theorem dL_law_395 : decode cL_law 395 = .ok (.iaload, 1) := by decide +kernel
theorem dL_law_396 : decode cL_law 396 = .ok (.aload_n 3, 1) := by decide +kernel
theorem dL_law_397 : decode cL_law 397 = .ok (.invokestatic 209, 3) := by decide +kernel
theorem dL_law_400 : decode cL_law 400 = .ok (.istore 6, 2) := by decide +kernel
theorem dL_law_402 : decode cL_law 402 = .ok (.aload_n 2, 1) := by decide +kernel
theorem dL_law_403 : decode cL_law 403 = .ok (.aload_n 0, 1) := by decide +kernel
theorem dL_law_404 : decode cL_law 404 = .ok (.iload 5, 2) := by decide +kernel
theorem dL_law_406 : decode cL_law 406 = .ok (.iconst 1, 1) := by decide +kernel
theorem dL_law_407 : decode cL_law 407 = .ok (.iadd, 1) := by decide +kernel
theorem dL_law_408 : decode cL_law 408 = .ok (.iaload, 1) := by decide +kernel
theorem dL_law_409 : decode cL_law 409 = .ok (.invokevirtual 214, 3) := by decide +kernel
theorem dL_law_412 : decode cL_law 412 = .ok (.istore 7, 2) := by decide +kernel
theorem dL_law_414 : decode cL_law 414 = .ok (.aload_n 2, 1) := by decide +kernel
theorem dL_law_415 : decode cL_law 415 = .ok (.invokevirtual 215, 3) := by decide +kernel
theorem dL_law_418 : decode cL_law 418 = .ok (.iload 6, 2) := by decide +kernel
theorem dL_law_420 : decode cL_law 420 = .ok (.if_icmp .eq 5, 3) := by decide +kernel
theorem dL_law_423 : decode cL_law 423 = .ok (.iconst 0, 1) := by decide +kernel
theorem dL_law_424 : decode cL_law 424 = .ok (.ireturn, 1) := by decide +kernel
theorem dL_law_425 : decode cL_law 425 = .ok (.iload 6, 2) := by decide +kernel
theorem dL_law_427 : decode cL_law 427 = .ok (.ifCond .ne 15, 3) := by decide +kernel
theorem dL_law_430 : decode cL_law 430 = .ok (.aload_n 3, 1) := by decide +kernel
theorem dL_law_431 : decode cL_law 431 = .ok (.iconst 0, 1) := by decide +kernel
theorem dL_law_432 : decode cL_law 432 = .ok (.laload, 1) := by decide +kernel
theorem dL_law_433 : decode cL_law 433 = .ok (.iload 7, 2) := by decide +kernel
theorem dL_law_435 : decode cL_law 435 = .ok (.i2l, 1) := by decide +kernel
theorem dL_law_436 : decode cL_law 436 = .ok (.lcmp, 1) := by decide +kernel
theorem dL_law_437 : decode cL_law 437 = .ok (.ifCond .eq 5, 3) := by decide +kernel
theorem dL_law_440 : decode cL_law 440 = .ok (.iconst 0, 1) := by decide +kernel
theorem dL_law_441 : decode cL_law 441 = .ok (.ireturn, 1) := by decide +kernel
theorem dL_law_442 : decode cL_law 442 = .ok (.goto 3082, 3) := by decide +kernel
theorem dL_law_445 : decode cL_law 445 = .ok (.aload_n 1, 1) := by decide +kernel
theorem dL_law_446 : decode cL_law 446 = .ok (.invokevirtual 218, 3) := by decide +kernel
theorem dL_law_449 : decode cL_law 449 = .ok (.aload_n 2, 1) := by decide +kernel
theorem dL_law_450 : decode cL_law 450 = .ok (.invokevirtual 221, 3) := by decide +kernel
theorem dL_law_453 : decode cL_law 453 = .ok (.if_icmp .eq 3071, 3) := by decide +kernel
theorem dL_law_456 : decode cL_law 456 = .ok (.iconst 0, 1) := by decide +kernel
theorem dL_law_457 : decode cL_law 457 = .ok (.ireturn, 1) := by decide +kernel
theorem dL_law_458 : decode cL_law 458 = .ok (.aload_n 1, 1) := by decide +kernel
theorem dL_law_459 : decode cL_law 459 = .ok (.invokevirtual 222, 3) := by decide +kernel
theorem dL_law_462 : decode cL_law 462 = .ok (.aload_n 2, 1) := by decide +kernel
theorem dL_law_463 : decode cL_law 463 = .ok (.invokevirtual 225, 3) := by decide +kernel
theorem dL_law_466 : decode cL_law 466 = .ok (.if_icmp .eq 3058, 3) := by decide +kernel
theorem dL_law_469 : decode cL_law 469 = .ok (.iconst 0, 1) := by decide +kernel
theorem dL_law_470 : decode cL_law 470 = .ok (.ireturn, 1) := by decide +kernel
theorem dL_law_471 : decode cL_law 471 = .ok (.aload_n 1, 1) := by decide +kernel
theorem dL_law_472 : decode cL_law 472 = .ok (.invokevirtual 226, 3) := by decide +kernel
theorem dL_law_475 : decode cL_law 475 = .ok (.aload_n 2, 1) := by decide +kernel
theorem dL_law_476 : decode cL_law 476 = .ok (.invokevirtual 229, 3) := by decide +kernel
theorem dL_law_479 : decode cL_law 479 = .ok (.if_icmp .eq 3045, 3) := by decide +kernel
theorem dL_law_482 : decode cL_law 482 = .ok (.iconst 0, 1) := by decide +kernel
theorem dL_law_483 : decode cL_law 483 = .ok (.ireturn, 1) := by decide +kernel
theorem dL_law_484 : decode cL_law 484 = .ok (.aload_n 1, 1) := by decide +kernel
theorem dL_law_485 : decode cL_law 485 = .ok (.aload_n 3, 1) := by decide +kernel
theorem dL_law_486 : decode cL_law 486 = .ok (.invokestatic 230, 3) := by decide +kernel
theorem dL_law_489 : decode cL_law 489 = .ok (.istore 6, 2) := by decide +kernel
theorem dL_law_491 : decode cL_law 491 = .ok (.aload_n 2, 1) := by decide +kernel
theorem dL_law_492 : decode cL_law 492 = .ok (.invokevirtual 233, 3) := by decide +kernel
theorem dL_law_495 : decode cL_law 495 = .ok (.istore 7, 2) := by decide +kernel
theorem dL_law_497 : decode cL_law 497 = .ok (.aload_n 2, 1) := by decide +kernel
theorem dL_law_498 : decode cL_law 498 = .ok (.invokevirtual 215, 3) := by decide +kernel
theorem dL_law_501 : decode cL_law 501 = .ok (.iload 6, 2) := by decide +kernel
theorem dL_law_503 : decode cL_law 503 = .ok (.if_icmp .eq 5, 3) := by decide +kernel
theorem dL_law_506 : decode cL_law 506 = .ok (.iconst 0, 1) := by decide +kernel
theorem dL_law_507 : decode cL_law 507 = .ok (.ireturn, 1) := by decide +kernel
theorem dL_law_508 : decode cL_law 508 = .ok (.iload 6, 2) := by decide +kernel
theorem dL_law_510 : decode cL_law 510 = .ok (.ifCond .ne 15, 3) := by decide +kernel
theorem dL_law_513 : decode cL_law 513 = .ok (.aload_n 3, 1) := by decide +kernel
theorem dL_law_514 : decode cL_law 514 = .ok (.iconst 0, 1) := by decide +kernel
theorem dL_law_515 : decode cL_law 515 = .ok (.laload, 1) := by decide +kernel
theorem dL_law_516 : decode cL_law 516 = .ok (.iload 7, 2) := by decide +kernel
theorem dL_law_518 : decode cL_law 518 = .ok (.i2l, 1) := by decide +kernel
theorem dL_law_519 : decode cL_law 519 = .ok (.lcmp, 1) := by decide +kernel
theorem dL_law_520 : decode cL_law 520 = .ok (.ifCond .eq 5, 3) := by decide +kernel
theorem dL_law_523 : decode cL_law 523 = .ok (.iconst 0, 1) := by decide +kernel
theorem dL_law_524 : decode cL_law 524 = .ok (.ireturn, 1) := by decide +kernel
theorem dL_law_525 : decode cL_law 525 = .ok (.goto 2999, 3) := by decide +kernel
theorem dL_law_528 : decode cL_law 528 = .ok (.aload_n 1, 1) := by decide +kernel
theorem dL_law_529 : decode cL_law 529 = .ok (.aload_n 3, 1) := by decide +kernel
theorem dL_law_530 : decode cL_law 530 = .ok (.invokestatic 234, 3) := by decide +kernel
theorem dL_law_533 : decode cL_law 533 = .ok (.istore 6, 2) := by decide +kernel
theorem dL_law_535 : decode cL_law 535 = .ok (.aload_n 2, 1) := by decide +kernel
theorem dL_law_536 : decode cL_law 536 = .ok (.invokevirtual 236, 3) := by decide +kernel
theorem dL_law_539 : decode cL_law 539 = .ok (.istore 7, 2) := by decide +kernel
theorem dL_law_541 : decode cL_law 541 = .ok (.aload_n 2, 1) := by decide +kernel
theorem dL_law_542 : decode cL_law 542 = .ok (.invokevirtual 215, 3) := by decide +kernel
theorem dL_law_545 : decode cL_law 545 = .ok (.iload 6, 2) := by decide +kernel
theorem dL_law_547 : decode cL_law 547 = .ok (.if_icmp .eq 5, 3) := by decide +kernel
theorem dL_law_550 : decode cL_law 550 = .ok (.iconst 0, 1) := by decide +kernel
theorem dL_law_551 : decode cL_law 551 = .ok (.ireturn, 1) := by decide +kernel
theorem dL_law_552 : decode cL_law 552 = .ok (.iload 6, 2) := by decide +kernel
theorem dL_law_554 : decode cL_law 554 = .ok (.ifCond .ne 15, 3) := by decide +kernel
theorem dL_law_557 : decode cL_law 557 = .ok (.aload_n 3, 1) := by decide +kernel
theorem dL_law_558 : decode cL_law 558 = .ok (.iconst 0, 1) := by decide +kernel
theorem dL_law_559 : decode cL_law 559 = .ok (.laload, 1) := by decide +kernel
theorem dL_law_560 : decode cL_law 560 = .ok (.iload 7, 2) := by decide +kernel
theorem dL_law_562 : decode cL_law 562 = .ok (.i2l, 1) := by decide +kernel
theorem dL_law_563 : decode cL_law 563 = .ok (.lcmp, 1) := by decide +kernel
theorem dL_law_564 : decode cL_law 564 = .ok (.ifCond .eq 5, 3) := by decide +kernel
theorem dL_law_567 : decode cL_law 567 = .ok (.iconst 0, 1) := by decide +kernel
theorem dL_law_568 : decode cL_law 568 = .ok (.ireturn, 1) := by decide +kernel
theorem dL_law_569 : decode cL_law 569 = .ok (.goto 2955, 3) := by decide +kernel
theorem dL_law_572 : decode cL_law 572 = .ok (.aload_n 1, 1) := by decide +kernel
theorem dL_law_573 : decode cL_law 573 = .ok (.aload_n 3, 1) := by decide +kernel
theorem dL_law_574 : decode cL_law 574 = .ok (.invokestatic 237, 3) := by decide +kernel
theorem dL_law_577 : decode cL_law 577 = .ok (.istore 6, 2) := by decide +kernel
theorem dL_law_579 : decode cL_law 579 = .ok (.aload_n 2, 1) := by decide +kernel
theorem dL_law_580 : decode cL_law 580 = .ok (.invokevirtual 239, 3) := by decide +kernel
theorem dL_law_583 : decode cL_law 583 = .ok (.istore 7, 2) := by decide +kernel
theorem dL_law_585 : decode cL_law 585 = .ok (.aload_n 2, 1) := by decide +kernel
theorem dL_law_586 : decode cL_law 586 = .ok (.invokevirtual 215, 3) := by decide +kernel
theorem dL_law_589 : decode cL_law 589 = .ok (.iload 6, 2) := by decide +kernel
theorem dL_law_591 : decode cL_law 591 = .ok (.if_icmp .eq 5, 3) := by decide +kernel
theorem dL_law_594 : decode cL_law 594 = .ok (.iconst 0, 1) := by decide +kernel
theorem dL_law_595 : decode cL_law 595 = .ok (.ireturn, 1) := by decide +kernel
theorem dL_law_596 : decode cL_law 596 = .ok (.iload 6, 2) := by decide +kernel
theorem dL_law_598 : decode cL_law 598 = .ok (.ifCond .ne 15, 3) := by decide +kernel
theorem dL_law_601 : decode cL_law 601 = .ok (.aload_n 3, 1) := by decide +kernel
theorem dL_law_602 : decode cL_law 602 = .ok (.iconst 0, 1) := by decide +kernel
theorem dL_law_603 : decode cL_law 603 = .ok (.laload, 1) := by decide +kernel
theorem dL_law_604 : decode cL_law 604 = .ok (.iload 7, 2) := by decide +kernel
theorem dL_law_606 : decode cL_law 606 = .ok (.i2l, 1) := by decide +kernel
theorem dL_law_607 : decode cL_law 607 = .ok (.lcmp, 1) := by decide +kernel
theorem dL_law_608 : decode cL_law 608 = .ok (.ifCond .eq 5, 3) := by decide +kernel
theorem dL_law_611 : decode cL_law 611 = .ok (.iconst 0, 1) := by decide +kernel
theorem dL_law_612 : decode cL_law 612 = .ok (.ireturn, 1) := by decide +kernel
theorem dL_law_613 : decode cL_law 613 = .ok (.goto 2911, 3) := by decide +kernel
theorem dL_law_616 : decode cL_law 616 = .ok (.aload_n 1, 1) := by decide +kernel
theorem dL_law_617 : decode cL_law 617 = .ok (.aload_n 3, 1) := by decide +kernel
theorem dL_law_618 : decode cL_law 618 = .ok (.invokestatic 240, 3) := by decide +kernel
theorem dL_law_621 : decode cL_law 621 = .ok (.istore 6, 2) := by decide +kernel
theorem dL_law_623 : decode cL_law 623 = .ok (.aload_n 2, 1) := by decide +kernel
theorem dL_law_624 : decode cL_law 624 = .ok (.invokevirtual 242, 3) := by decide +kernel
theorem dL_law_627 : decode cL_law 627 = .ok (.istore 7, 2) := by decide +kernel
theorem dL_law_629 : decode cL_law 629 = .ok (.aload_n 2, 1) := by decide +kernel
theorem dL_law_630 : decode cL_law 630 = .ok (.invokevirtual 215, 3) := by decide +kernel
theorem dL_law_633 : decode cL_law 633 = .ok (.iload 6, 2) := by decide +kernel
theorem dL_law_635 : decode cL_law 635 = .ok (.if_icmp .eq 5, 3) := by decide +kernel
theorem dL_law_638 : decode cL_law 638 = .ok (.iconst 0, 1) := by decide +kernel
theorem dL_law_639 : decode cL_law 639 = .ok (.ireturn, 1) := by decide +kernel
theorem dL_law_640 : decode cL_law 640 = .ok (.iload 6, 2) := by decide +kernel
theorem dL_law_642 : decode cL_law 642 = .ok (.ifCond .ne 15, 3) := by decide +kernel
theorem dL_law_645 : decode cL_law 645 = .ok (.aload_n 3, 1) := by decide +kernel
theorem dL_law_646 : decode cL_law 646 = .ok (.iconst 0, 1) := by decide +kernel
theorem dL_law_647 : decode cL_law 647 = .ok (.laload, 1) := by decide +kernel
theorem dL_law_648 : decode cL_law 648 = .ok (.iload 7, 2) := by decide +kernel
theorem dL_law_650 : decode cL_law 650 = .ok (.i2l, 1) := by decide +kernel
theorem dL_law_651 : decode cL_law 651 = .ok (.lcmp, 1) := by decide +kernel
theorem dL_law_652 : decode cL_law 652 = .ok (.ifCond .eq 5, 3) := by decide +kernel
theorem dL_law_655 : decode cL_law 655 = .ok (.iconst 0, 1) := by decide +kernel
theorem dL_law_656 : decode cL_law 656 = .ok (.ireturn, 1) := by decide +kernel
theorem dL_law_657 : decode cL_law 657 = .ok (.goto 2867, 3) := by decide +kernel
theorem dL_law_660 : decode cL_law 660 = .ok (.aload_n 1, 1) := by decide +kernel
theorem dL_law_661 : decode cL_law 661 = .ok (.aload_n 3, 1) := by decide +kernel
theorem dL_law_662 : decode cL_law 662 = .ok (.invokestatic 243, 3) := by decide +kernel
theorem dL_law_665 : decode cL_law 665 = .ok (.istore 6, 2) := by decide +kernel
theorem dL_law_667 : decode cL_law 667 = .ok (.aload_n 2, 1) := by decide +kernel
theorem dL_law_668 : decode cL_law 668 = .ok (.invokevirtual 245, 3) := by decide +kernel
theorem dL_law_671 : decode cL_law 671 = .ok (.istore 7, 2) := by decide +kernel
theorem dL_law_673 : decode cL_law 673 = .ok (.aload_n 2, 1) := by decide +kernel
theorem dL_law_674 : decode cL_law 674 = .ok (.invokevirtual 215, 3) := by decide +kernel
theorem dL_law_677 : decode cL_law 677 = .ok (.iload 6, 2) := by decide +kernel
theorem dL_law_679 : decode cL_law 679 = .ok (.if_icmp .eq 5, 3) := by decide +kernel
theorem dL_law_682 : decode cL_law 682 = .ok (.iconst 0, 1) := by decide +kernel
theorem dL_law_683 : decode cL_law 683 = .ok (.ireturn, 1) := by decide +kernel
theorem dL_law_684 : decode cL_law 684 = .ok (.iload 6, 2) := by decide +kernel
theorem dL_law_686 : decode cL_law 686 = .ok (.ifCond .ne 15, 3) := by decide +kernel
theorem dL_law_689 : decode cL_law 689 = .ok (.aload_n 3, 1) := by decide +kernel
theorem dL_law_690 : decode cL_law 690 = .ok (.iconst 0, 1) := by decide +kernel
theorem dL_law_691 : decode cL_law 691 = .ok (.laload, 1) := by decide +kernel
theorem dL_law_692 : decode cL_law 692 = .ok (.iload 7, 2) := by decide +kernel
theorem dL_law_694 : decode cL_law 694 = .ok (.i2l, 1) := by decide +kernel
theorem dL_law_695 : decode cL_law 695 = .ok (.lcmp, 1) := by decide +kernel
theorem dL_law_696 : decode cL_law 696 = .ok (.ifCond .eq 5, 3) := by decide +kernel
theorem dL_law_699 : decode cL_law 699 = .ok (.iconst 0, 1) := by decide +kernel
theorem dL_law_700 : decode cL_law 700 = .ok (.ireturn, 1) := by decide +kernel
theorem dL_law_701 : decode cL_law 701 = .ok (.goto 2823, 3) := by decide +kernel
theorem dL_law_704 : decode cL_law 704 = .ok (.aload_n 1, 1) := by decide +kernel
theorem dL_law_705 : decode cL_law 705 = .ok (.aload_n 3, 1) := by decide +kernel
theorem dL_law_706 : decode cL_law 706 = .ok (.invokestatic 246, 3) := by decide +kernel
theorem dL_law_709 : decode cL_law 709 = .ok (.istore 6, 2) := by decide +kernel
theorem dL_law_711 : decode cL_law 711 = .ok (.aload_n 2, 1) := by decide +kernel
theorem dL_law_712 : decode cL_law 712 = .ok (.invokevirtual 248, 3) := by decide +kernel
theorem dL_law_715 : decode cL_law 715 = .ok (.istore 7, 2) := by decide +kernel
theorem dL_law_717 : decode cL_law 717 = .ok (.aload_n 2, 1) := by decide +kernel
theorem dL_law_718 : decode cL_law 718 = .ok (.invokevirtual 215, 3) := by decide +kernel
theorem dL_law_721 : decode cL_law 721 = .ok (.iload 6, 2) := by decide +kernel
theorem dL_law_723 : decode cL_law 723 = .ok (.if_icmp .eq 5, 3) := by decide +kernel
theorem dL_law_726 : decode cL_law 726 = .ok (.iconst 0, 1) := by decide +kernel
theorem dL_law_727 : decode cL_law 727 = .ok (.ireturn, 1) := by decide +kernel
theorem dL_law_728 : decode cL_law 728 = .ok (.iload 6, 2) := by decide +kernel
theorem dL_law_730 : decode cL_law 730 = .ok (.ifCond .ne 15, 3) := by decide +kernel
theorem dL_law_733 : decode cL_law 733 = .ok (.aload_n 3, 1) := by decide +kernel
theorem dL_law_734 : decode cL_law 734 = .ok (.iconst 0, 1) := by decide +kernel
theorem dL_law_735 : decode cL_law 735 = .ok (.laload, 1) := by decide +kernel
theorem dL_law_736 : decode cL_law 736 = .ok (.iload 7, 2) := by decide +kernel
theorem dL_law_738 : decode cL_law 738 = .ok (.i2l, 1) := by decide +kernel
theorem dL_law_739 : decode cL_law 739 = .ok (.lcmp, 1) := by decide +kernel
theorem dL_law_740 : decode cL_law 740 = .ok (.ifCond .eq 5, 3) := by decide +kernel
theorem dL_law_743 : decode cL_law 743 = .ok (.iconst 0, 1) := by decide +kernel
theorem dL_law_744 : decode cL_law 744 = .ok (.ireturn, 1) := by decide +kernel
theorem dL_law_745 : decode cL_law 745 = .ok (.goto 2779, 3) := by decide +kernel
theorem dL_law_748 : decode cL_law 748 = .ok (.aload_n 1, 1) := by decide +kernel
theorem dL_law_749 : decode cL_law 749 = .ok (.aload_n 3, 1) := by decide +kernel
theorem dL_law_750 : decode cL_law 750 = .ok (.invokestatic 249, 3) := by decide +kernel
theorem dL_law_753 : decode cL_law 753 = .ok (.istore 6, 2) := by decide +kernel
theorem dL_law_755 : decode cL_law 755 = .ok (.aload_n 2, 1) := by decide +kernel
theorem dL_law_756 : decode cL_law 756 = .ok (.invokevirtual 251, 3) := by decide +kernel
theorem dL_law_759 : decode cL_law 759 = .ok (.istore 7, 2) := by decide +kernel
theorem dL_law_761 : decode cL_law 761 = .ok (.aload_n 2, 1) := by decide +kernel
theorem dL_law_762 : decode cL_law 762 = .ok (.invokevirtual 215, 3) := by decide +kernel
theorem dL_law_765 : decode cL_law 765 = .ok (.iload 6, 2) := by decide +kernel
theorem dL_law_767 : decode cL_law 767 = .ok (.if_icmp .eq 5, 3) := by decide +kernel
theorem dL_law_770 : decode cL_law 770 = .ok (.iconst 0, 1) := by decide +kernel
theorem dL_law_771 : decode cL_law 771 = .ok (.ireturn, 1) := by decide +kernel
theorem dL_law_772 : decode cL_law 772 = .ok (.iload 6, 2) := by decide +kernel
theorem dL_law_774 : decode cL_law 774 = .ok (.ifCond .ne 15, 3) := by decide +kernel
theorem dL_law_777 : decode cL_law 777 = .ok (.aload_n 3, 1) := by decide +kernel
theorem dL_law_778 : decode cL_law 778 = .ok (.iconst 0, 1) := by decide +kernel
theorem dL_law_779 : decode cL_law 779 = .ok (.laload, 1) := by decide +kernel
theorem dL_law_780 : decode cL_law 780 = .ok (.iload 7, 2) := by decide +kernel
theorem dL_law_782 : decode cL_law 782 = .ok (.i2l, 1) := by decide +kernel
theorem dL_law_783 : decode cL_law 783 = .ok (.lcmp, 1) := by decide +kernel
theorem dL_law_784 : decode cL_law 784 = .ok (.ifCond .eq 5, 3) := by decide +kernel
theorem dL_law_787 : decode cL_law 787 = .ok (.iconst 0, 1) := by decide +kernel
theorem dL_law_788 : decode cL_law 788 = .ok (.ireturn, 1) := by decide +kernel
theorem dL_law_789 : decode cL_law 789 = .ok (.goto 2735, 3) := by decide +kernel
theorem dL_law_792 : decode cL_law 792 = .ok (.aload_n 1, 1) := by decide +kernel
theorem dL_law_793 : decode cL_law 793 = .ok (.aload_n 3, 1) := by decide +kernel
theorem dL_law_794 : decode cL_law 794 = .ok (.invokestatic 252, 3) := by decide +kernel
theorem dL_law_797 : decode cL_law 797 = .ok (.istore 6, 2) := by decide +kernel
theorem dL_law_799 : decode cL_law 799 = .ok (.aload_n 2, 1) := by decide +kernel
theorem dL_law_800 : decode cL_law 800 = .ok (.invokevirtual 254, 3) := by decide +kernel
theorem dL_law_803 : decode cL_law 803 = .ok (.istore 7, 2) := by decide +kernel
theorem dL_law_805 : decode cL_law 805 = .ok (.aload_n 2, 1) := by decide +kernel
theorem dL_law_806 : decode cL_law 806 = .ok (.invokevirtual 215, 3) := by decide +kernel
theorem dL_law_809 : decode cL_law 809 = .ok (.iload 6, 2) := by decide +kernel
theorem dL_law_811 : decode cL_law 811 = .ok (.if_icmp .eq 5, 3) := by decide +kernel
theorem dL_law_814 : decode cL_law 814 = .ok (.iconst 0, 1) := by decide +kernel
theorem dL_law_815 : decode cL_law 815 = .ok (.ireturn, 1) := by decide +kernel
theorem dL_law_816 : decode cL_law 816 = .ok (.iload 6, 2) := by decide +kernel
theorem dL_law_818 : decode cL_law 818 = .ok (.ifCond .ne 22, 3) := by decide +kernel
theorem dL_law_821 : decode cL_law 821 = .ok (.aload_n 3, 1) := by decide +kernel
theorem dL_law_822 : decode cL_law 822 = .ok (.iconst 0, 1) := by decide +kernel
theorem dL_law_823 : decode cL_law 823 = .ok (.laload, 1) := by decide +kernel
theorem dL_law_824 : decode cL_law 824 = .ok (.iload 7, 2) := by decide +kernel
theorem dL_law_826 : decode cL_law 826 = .ok (.ifCond .eq 7, 3) := by decide +kernel
theorem dL_law_829 : decode cL_law 829 = .ok (.lconst 1, 1) := by decide +kernel
theorem dL_law_830 : decode cL_law 830 = .ok (.goto 4, 3) := by decide +kernel
theorem dL_law_833 : decode cL_law 833 = .ok (.lconst 0, 1) := by decide +kernel
theorem dL_law_834 : decode cL_law 834 = .ok (.lcmp, 1) := by decide +kernel
theorem dL_law_835 : decode cL_law 835 = .ok (.ifCond .eq 5, 3) := by decide +kernel
theorem dL_law_838 : decode cL_law 838 = .ok (.iconst 0, 1) := by decide +kernel
theorem dL_law_839 : decode cL_law 839 = .ok (.ireturn, 1) := by decide +kernel
theorem dL_law_840 : decode cL_law 840 = .ok (.goto 2684, 3) := by decide +kernel
theorem dL_law_843 : decode cL_law 843 = .ok (.aload_n 1, 1) := by decide +kernel
theorem dL_law_844 : decode cL_law 844 = .ok (.aload_n 0, 1) := by decide +kernel
theorem dL_law_845 : decode cL_law 845 = .ok (.iload 5, 2) := by decide +kernel
theorem dL_law_847 : decode cL_law 847 = .ok (.iconst 1, 1) := by decide +kernel
theorem dL_law_848 : decode cL_law 848 = .ok (.iadd, 1) := by decide +kernel
theorem dL_law_849 : decode cL_law 849 = .ok (.iaload, 1) := by decide +kernel
theorem dL_law_850 : decode cL_law 850 = .ok (.aload_n 3, 1) := by decide +kernel
theorem dL_law_851 : decode cL_law 851 = .ok (.invokestatic 255, 3) := by decide +kernel
theorem dL_law_854 : decode cL_law 854 = .ok (.istore 6, 2) := by decide +kernel
theorem dL_law_856 : decode cL_law 856 = .ok (.aload_n 2, 1) := by decide +kernel
theorem dL_law_857 : decode cL_law 857 = .ok (.aload_n 0, 1) := by decide +kernel
theorem dL_law_858 : decode cL_law 858 = .ok (.iload 5, 2) := by decide +kernel
theorem dL_law_860 : decode cL_law 860 = .ok (.iconst 1, 1) := by decide +kernel
theorem dL_law_861 : decode cL_law 861 = .ok (.iadd, 1) := by decide +kernel
theorem dL_law_862 : decode cL_law 862 = .ok (.iaload, 1) := by decide +kernel
theorem dL_law_863 : decode cL_law 863 = .ok (.invokevirtual 257, 3) := by decide +kernel
theorem dL_law_866 : decode cL_law 866 = .ok (.istore 7, 2) := by decide +kernel
theorem dL_law_868 : decode cL_law 868 = .ok (.aload_n 2, 1) := by decide +kernel
theorem dL_law_869 : decode cL_law 869 = .ok (.invokevirtual 215, 3) := by decide +kernel
theorem dL_law_872 : decode cL_law 872 = .ok (.iload 6, 2) := by decide +kernel
theorem dL_law_874 : decode cL_law 874 = .ok (.if_icmp .eq 5, 3) := by decide +kernel
theorem dL_law_877 : decode cL_law 877 = .ok (.iconst 0, 1) := by decide +kernel
theorem dL_law_878 : decode cL_law 878 = .ok (.ireturn, 1) := by decide +kernel
theorem dL_law_879 : decode cL_law 879 = .ok (.iload 6, 2) := by decide +kernel
theorem dL_law_881 : decode cL_law 881 = .ok (.ifCond .ne 22, 3) := by decide +kernel
theorem dL_law_884 : decode cL_law 884 = .ok (.aload_n 3, 1) := by decide +kernel
theorem dL_law_885 : decode cL_law 885 = .ok (.iconst 0, 1) := by decide +kernel
theorem dL_law_886 : decode cL_law 886 = .ok (.laload, 1) := by decide +kernel
theorem dL_law_887 : decode cL_law 887 = .ok (.iload 7, 2) := by decide +kernel
theorem dL_law_889 : decode cL_law 889 = .ok (.ifCond .eq 7, 3) := by decide +kernel
theorem dL_law_892 : decode cL_law 892 = .ok (.lconst 1, 1) := by decide +kernel
theorem dL_law_893 : decode cL_law 893 = .ok (.goto 4, 3) := by decide +kernel
theorem dL_law_896 : decode cL_law 896 = .ok (.lconst 0, 1) := by decide +kernel
theorem dL_law_897 : decode cL_law 897 = .ok (.lcmp, 1) := by decide +kernel
theorem dL_law_898 : decode cL_law 898 = .ok (.ifCond .eq 5, 3) := by decide +kernel
theorem dL_law_901 : decode cL_law 901 = .ok (.iconst 0, 1) := by decide +kernel
theorem dL_law_902 : decode cL_law 902 = .ok (.ireturn, 1) := by decide +kernel
theorem dL_law_903 : decode cL_law 903 = .ok (.goto 2621, 3) := by decide +kernel
theorem dL_law_906 : decode cL_law 906 = .ok (.aload_n 1, 1) := by decide +kernel
theorem dL_law_907 : decode cL_law 907 = .ok (.aload_n 0, 1) := by decide +kernel
theorem dL_law_908 : decode cL_law 908 = .ok (.iload 5, 2) := by decide +kernel
theorem dL_law_910 : decode cL_law 910 = .ok (.iconst 1, 1) := by decide +kernel
theorem dL_law_911 : decode cL_law 911 = .ok (.iadd, 1) := by decide +kernel
theorem dL_law_912 : decode cL_law 912 = .ok (.iaload, 1) := by decide +kernel
theorem dL_law_913 : decode cL_law 913 = .ok (.aload_n 3, 1) := by decide +kernel
theorem dL_law_914 : decode cL_law 914 = .ok (.invokestatic 258, 3) := by decide +kernel
theorem dL_law_917 : decode cL_law 917 = .ok (.istore 6, 2) := by decide +kernel
theorem dL_law_919 : decode cL_law 919 = .ok (.aload_n 2, 1) := by decide +kernel
theorem dL_law_920 : decode cL_law 920 = .ok (.aload_n 0, 1) := by decide +kernel
theorem dL_law_921 : decode cL_law 921 = .ok (.iload 5, 2) := by decide +kernel
theorem dL_law_923 : decode cL_law 923 = .ok (.iconst 1, 1) := by decide +kernel
theorem dL_law_924 : decode cL_law 924 = .ok (.iadd, 1) := by decide +kernel
theorem dL_law_925 : decode cL_law 925 = .ok (.iaload, 1) := by decide +kernel
theorem dL_law_926 : decode cL_law 926 = .ok (.invokevirtual 260, 3) := by decide +kernel
theorem dL_law_929 : decode cL_law 929 = .ok (.istore 7, 2) := by decide +kernel
theorem dL_law_931 : decode cL_law 931 = .ok (.aload_n 2, 1) := by decide +kernel
theorem dL_law_932 : decode cL_law 932 = .ok (.invokevirtual 215, 3) := by decide +kernel
theorem dL_law_935 : decode cL_law 935 = .ok (.iload 6, 2) := by decide +kernel
theorem dL_law_937 : decode cL_law 937 = .ok (.if_icmp .eq 5, 3) := by decide +kernel
theorem dL_law_940 : decode cL_law 940 = .ok (.iconst 0, 1) := by decide +kernel
theorem dL_law_941 : decode cL_law 941 = .ok (.ireturn, 1) := by decide +kernel
theorem dL_law_942 : decode cL_law 942 = .ok (.iload 6, 2) := by decide +kernel
theorem dL_law_944 : decode cL_law 944 = .ok (.ifCond .ne 22, 3) := by decide +kernel
theorem dL_law_947 : decode cL_law 947 = .ok (.aload_n 3, 1) := by decide +kernel
theorem dL_law_948 : decode cL_law 948 = .ok (.iconst 0, 1) := by decide +kernel
theorem dL_law_949 : decode cL_law 949 = .ok (.laload, 1) := by decide +kernel
theorem dL_law_950 : decode cL_law 950 = .ok (.iload 7, 2) := by decide +kernel
theorem dL_law_952 : decode cL_law 952 = .ok (.ifCond .eq 7, 3) := by decide +kernel
theorem dL_law_955 : decode cL_law 955 = .ok (.lconst 1, 1) := by decide +kernel
theorem dL_law_956 : decode cL_law 956 = .ok (.goto 4, 3) := by decide +kernel
theorem dL_law_959 : decode cL_law 959 = .ok (.lconst 0, 1) := by decide +kernel
theorem dL_law_960 : decode cL_law 960 = .ok (.lcmp, 1) := by decide +kernel
theorem dL_law_961 : decode cL_law 961 = .ok (.ifCond .eq 5, 3) := by decide +kernel
theorem dL_law_964 : decode cL_law 964 = .ok (.iconst 0, 1) := by decide +kernel
theorem dL_law_965 : decode cL_law 965 = .ok (.ireturn, 1) := by decide +kernel
theorem dL_law_966 : decode cL_law 966 = .ok (.goto 2558, 3) := by decide +kernel
theorem dL_law_969 : decode cL_law 969 = .ok (.aload_n 1, 1) := by decide +kernel
theorem dL_law_970 : decode cL_law 970 = .ok (.aload_n 0, 1) := by decide +kernel
theorem dL_law_971 : decode cL_law 971 = .ok (.iload 5, 2) := by decide +kernel
theorem dL_law_973 : decode cL_law 973 = .ok (.iconst 1, 1) := by decide +kernel
theorem dL_law_974 : decode cL_law 974 = .ok (.iadd, 1) := by decide +kernel
theorem dL_law_975 : decode cL_law 975 = .ok (.iaload, 1) := by decide +kernel
theorem dL_law_976 : decode cL_law 976 = .ok (.aload_n 3, 1) := by decide +kernel
theorem dL_law_977 : decode cL_law 977 = .ok (.invokestatic 261, 3) := by decide +kernel
theorem dL_law_980 : decode cL_law 980 = .ok (.istore 6, 2) := by decide +kernel
theorem dL_law_982 : decode cL_law 982 = .ok (.aload_n 2, 1) := by decide +kernel
theorem dL_law_983 : decode cL_law 983 = .ok (.aload_n 0, 1) := by decide +kernel
theorem dL_law_984 : decode cL_law 984 = .ok (.iload 5, 2) := by decide +kernel
theorem dL_law_986 : decode cL_law 986 = .ok (.iconst 1, 1) := by decide +kernel
theorem dL_law_987 : decode cL_law 987 = .ok (.iadd, 1) := by decide +kernel
theorem dL_law_988 : decode cL_law 988 = .ok (.iaload, 1) := by decide +kernel
theorem dL_law_989 : decode cL_law 989 = .ok (.invokevirtual 263, 3) := by decide +kernel
theorem dL_law_992 : decode cL_law 992 = .ok (.istore 7, 2) := by decide +kernel
theorem dL_law_994 : decode cL_law 994 = .ok (.aload_n 2, 1) := by decide +kernel
theorem dL_law_995 : decode cL_law 995 = .ok (.invokevirtual 215, 3) := by decide +kernel
theorem dL_law_998 : decode cL_law 998 = .ok (.iload 6, 2) := by decide +kernel
theorem dL_law_1000 : decode cL_law 1000 = .ok (.if_icmp .eq 5, 3) := by decide +kernel
theorem dL_law_1003 : decode cL_law 1003 = .ok (.iconst 0, 1) := by decide +kernel
theorem dL_law_1004 : decode cL_law 1004 = .ok (.ireturn, 1) := by decide +kernel
theorem dL_law_1005 : decode cL_law 1005 = .ok (.iload 6, 2) := by decide +kernel
theorem dL_law_1007 : decode cL_law 1007 = .ok (.ifCond .ne 15, 3) := by decide +kernel
theorem dL_law_1010 : decode cL_law 1010 = .ok (.aload_n 3, 1) := by decide +kernel
theorem dL_law_1011 : decode cL_law 1011 = .ok (.iconst 0, 1) := by decide +kernel
theorem dL_law_1012 : decode cL_law 1012 = .ok (.laload, 1) := by decide +kernel
theorem dL_law_1013 : decode cL_law 1013 = .ok (.iload 7, 2) := by decide +kernel
theorem dL_law_1015 : decode cL_law 1015 = .ok (.i2l, 1) := by decide +kernel
theorem dL_law_1016 : decode cL_law 1016 = .ok (.lcmp, 1) := by decide +kernel
theorem dL_law_1017 : decode cL_law 1017 = .ok (.ifCond .eq 5, 3) := by decide +kernel
theorem dL_law_1020 : decode cL_law 1020 = .ok (.iconst 0, 1) := by decide +kernel
theorem dL_law_1021 : decode cL_law 1021 = .ok (.ireturn, 1) := by decide +kernel
theorem dL_law_1022 : decode cL_law 1022 = .ok (.goto 2502, 3) := by decide +kernel
theorem dL_law_1025 : decode cL_law 1025 = .ok (.aload_n 1, 1) := by decide +kernel
theorem dL_law_1026 : decode cL_law 1026 = .ok (.aload_n 0, 1) := by decide +kernel
theorem dL_law_1027 : decode cL_law 1027 = .ok (.iload 5, 2) := by decide +kernel
theorem dL_law_1029 : decode cL_law 1029 = .ok (.iconst 1, 1) := by decide +kernel
theorem dL_law_1030 : decode cL_law 1030 = .ok (.iadd, 1) := by decide +kernel
theorem dL_law_1031 : decode cL_law 1031 = .ok (.iaload, 1) := by decide +kernel
theorem dL_law_1032 : decode cL_law 1032 = .ok (.aload_n 3, 1) := by decide +kernel
theorem dL_law_1033 : decode cL_law 1033 = .ok (.invokestatic 264, 3) := by decide +kernel
theorem dL_law_1036 : decode cL_law 1036 = .ok (.istore 6, 2) := by decide +kernel
theorem dL_law_1038 : decode cL_law 1038 = .ok (.aload_n 2, 1) := by decide +kernel
theorem dL_law_1039 : decode cL_law 1039 = .ok (.aload_n 0, 1) := by decide +kernel
theorem dL_law_1040 : decode cL_law 1040 = .ok (.iload 5, 2) := by decide +kernel
theorem dL_law_1042 : decode cL_law 1042 = .ok (.iconst 1, 1) := by decide +kernel
theorem dL_law_1043 : decode cL_law 1043 = .ok (.iadd, 1) := by decide +kernel
theorem dL_law_1044 : decode cL_law 1044 = .ok (.iaload, 1) := by decide +kernel
theorem dL_law_1045 : decode cL_law 1045 = .ok (.invokevirtual 266, 3) := by decide +kernel
theorem dL_law_1048 : decode cL_law 1048 = .ok (.istore 7, 2) := by decide +kernel
theorem dL_law_1050 : decode cL_law 1050 = .ok (.aload_n 2, 1) := by decide +kernel
theorem dL_law_1051 : decode cL_law 1051 = .ok (.invokevirtual 215, 3) := by decide +kernel
theorem dL_law_1054 : decode cL_law 1054 = .ok (.iload 6, 2) := by decide +kernel
theorem dL_law_1056 : decode cL_law 1056 = .ok (.if_icmp .eq 5, 3) := by decide +kernel
theorem dL_law_1059 : decode cL_law 1059 = .ok (.iconst 0, 1) := by decide +kernel
theorem dL_law_1060 : decode cL_law 1060 = .ok (.ireturn, 1) := by decide +kernel
theorem dL_law_1061 : decode cL_law 1061 = .ok (.iload 6, 2) := by decide +kernel
theorem dL_law_1063 : decode cL_law 1063 = .ok (.ifCond .ne 15, 3) := by decide +kernel
theorem dL_law_1066 : decode cL_law 1066 = .ok (.aload_n 3, 1) := by decide +kernel
theorem dL_law_1067 : decode cL_law 1067 = .ok (.iconst 0, 1) := by decide +kernel
theorem dL_law_1068 : decode cL_law 1068 = .ok (.laload, 1) := by decide +kernel
theorem dL_law_1069 : decode cL_law 1069 = .ok (.iload 7, 2) := by decide +kernel
theorem dL_law_1071 : decode cL_law 1071 = .ok (.i2l, 1) := by decide +kernel
theorem dL_law_1072 : decode cL_law 1072 = .ok (.lcmp, 1) := by decide +kernel
theorem dL_law_1073 : decode cL_law 1073 = .ok (.ifCond .eq 5, 3) := by decide +kernel
theorem dL_law_1076 : decode cL_law 1076 = .ok (.iconst 0, 1) := by decide +kernel
theorem dL_law_1077 : decode cL_law 1077 = .ok (.ireturn, 1) := by decide +kernel
theorem dL_law_1078 : decode cL_law 1078 = .ok (.goto 2446, 3) := by decide +kernel
theorem dL_law_1081 : decode cL_law 1081 = .ok (.aload_n 1, 1) := by decide +kernel
theorem dL_law_1082 : decode cL_law 1082 = .ok (.aload_n 3, 1) := by decide +kernel
theorem dL_law_1083 : decode cL_law 1083 = .ok (.invokestatic 267, 3) := by decide +kernel
theorem dL_law_1086 : decode cL_law 1086 = .ok (.istore 6, 2) := by decide +kernel
theorem dL_law_1088 : decode cL_law 1088 = .ok (.aload_n 2, 1) := by decide +kernel
theorem dL_law_1089 : decode cL_law 1089 = .ok (.invokevirtual 269, 3) := by decide +kernel
theorem dL_law_1092 : decode cL_law 1092 = .ok (.istore 7, 2) := by decide +kernel
theorem dL_law_1094 : decode cL_law 1094 = .ok (.aload_n 2, 1) := by decide +kernel
theorem dL_law_1095 : decode cL_law 1095 = .ok (.invokevirtual 215, 3) := by decide +kernel
theorem dL_law_1098 : decode cL_law 1098 = .ok (.iload 6, 2) := by decide +kernel
theorem dL_law_1100 : decode cL_law 1100 = .ok (.if_icmp .eq 5, 3) := by decide +kernel
theorem dL_law_1103 : decode cL_law 1103 = .ok (.iconst 0, 1) := by decide +kernel
theorem dL_law_1104 : decode cL_law 1104 = .ok (.ireturn, 1) := by decide +kernel
theorem dL_law_1105 : decode cL_law 1105 = .ok (.iload 6, 2) := by decide +kernel
theorem dL_law_1107 : decode cL_law 1107 = .ok (.ifCond .ne 15, 3) := by decide +kernel
theorem dL_law_1110 : decode cL_law 1110 = .ok (.aload_n 3, 1) := by decide +kernel
theorem dL_law_1111 : decode cL_law 1111 = .ok (.iconst 0, 1) := by decide +kernel
theorem dL_law_1112 : decode cL_law 1112 = .ok (.laload, 1) := by decide +kernel
theorem dL_law_1113 : decode cL_law 1113 = .ok (.iload 7, 2) := by decide +kernel
theorem dL_law_1115 : decode cL_law 1115 = .ok (.i2l, 1) := by decide +kernel
theorem dL_law_1116 : decode cL_law 1116 = .ok (.lcmp, 1) := by decide +kernel
theorem dL_law_1117 : decode cL_law 1117 = .ok (.ifCond .eq 5, 3) := by decide +kernel
theorem dL_law_1120 : decode cL_law 1120 = .ok (.iconst 0, 1) := by decide +kernel
theorem dL_law_1121 : decode cL_law 1121 = .ok (.ireturn, 1) := by decide +kernel
theorem dL_law_1122 : decode cL_law 1122 = .ok (.goto 2402, 3) := by decide +kernel
theorem dL_law_1125 : decode cL_law 1125 = .ok (.aload_n 1, 1) := by decide +kernel
theorem dL_law_1126 : decode cL_law 1126 = .ok (.aload_n 3, 1) := by decide +kernel
theorem dL_law_1127 : decode cL_law 1127 = .ok (.invokestatic 270, 3) := by decide +kernel
theorem dL_law_1130 : decode cL_law 1130 = .ok (.istore 6, 2) := by decide +kernel
theorem dL_law_1132 : decode cL_law 1132 = .ok (.aload_n 2, 1) := by decide +kernel
theorem dL_law_1133 : decode cL_law 1133 = .ok (.invokevirtual 272, 3) := by decide +kernel
theorem dL_law_1136 : decode cL_law 1136 = .ok (.istore 7, 2) := by decide +kernel
theorem dL_law_1138 : decode cL_law 1138 = .ok (.aload_n 2, 1) := by decide +kernel
theorem dL_law_1139 : decode cL_law 1139 = .ok (.invokevirtual 215, 3) := by decide +kernel
theorem dL_law_1142 : decode cL_law 1142 = .ok (.iload 6, 2) := by decide +kernel
theorem dL_law_1144 : decode cL_law 1144 = .ok (.if_icmp .eq 5, 3) := by decide +kernel
theorem dL_law_1147 : decode cL_law 1147 = .ok (.iconst 0, 1) := by decide +kernel
theorem dL_law_1148 : decode cL_law 1148 = .ok (.ireturn, 1) := by decide +kernel
theorem dL_law_1149 : decode cL_law 1149 = .ok (.iload 6, 2) := by decide +kernel
theorem dL_law_1151 : decode cL_law 1151 = .ok (.ifCond .ne 15, 3) := by decide +kernel
theorem dL_law_1154 : decode cL_law 1154 = .ok (.aload_n 3, 1) := by decide +kernel
theorem dL_law_1155 : decode cL_law 1155 = .ok (.iconst 0, 1) := by decide +kernel
theorem dL_law_1156 : decode cL_law 1156 = .ok (.laload, 1) := by decide +kernel
theorem dL_law_1157 : decode cL_law 1157 = .ok (.iload 7, 2) := by decide +kernel
theorem dL_law_1159 : decode cL_law 1159 = .ok (.i2l, 1) := by decide +kernel
theorem dL_law_1160 : decode cL_law 1160 = .ok (.lcmp, 1) := by decide +kernel
theorem dL_law_1161 : decode cL_law 1161 = .ok (.ifCond .eq 5, 3) := by decide +kernel
theorem dL_law_1164 : decode cL_law 1164 = .ok (.iconst 0, 1) := by decide +kernel
theorem dL_law_1165 : decode cL_law 1165 = .ok (.ireturn, 1) := by decide +kernel
theorem dL_law_1166 : decode cL_law 1166 = .ok (.goto 2358, 3) := by decide +kernel
theorem dL_law_1169 : decode cL_law 1169 = .ok (.aload_n 1, 1) := by decide +kernel
theorem dL_law_1170 : decode cL_law 1170 = .ok (.aload_n 3, 1) := by decide +kernel
theorem dL_law_1171 : decode cL_law 1171 = .ok (.invokestatic 273, 3) := by decide +kernel
theorem dL_law_1174 : decode cL_law 1174 = .ok (.istore 6, 2) := by decide +kernel
theorem dL_law_1176 : decode cL_law 1176 = .ok (.aload_n 2, 1) := by decide +kernel
theorem dL_law_1177 : decode cL_law 1177 = .ok (.invokevirtual 275, 3) := by decide +kernel
theorem dL_law_1180 : decode cL_law 1180 = .ok (.istore 7, 2) := by decide +kernel
theorem dL_law_1182 : decode cL_law 1182 = .ok (.aload_n 2, 1) := by decide +kernel
theorem dL_law_1183 : decode cL_law 1183 = .ok (.invokevirtual 215, 3) := by decide +kernel
theorem dL_law_1186 : decode cL_law 1186 = .ok (.iload 6, 2) := by decide +kernel
theorem dL_law_1188 : decode cL_law 1188 = .ok (.if_icmp .eq 5, 3) := by decide +kernel
theorem dL_law_1191 : decode cL_law 1191 = .ok (.iconst 0, 1) := by decide +kernel
theorem dL_law_1192 : decode cL_law 1192 = .ok (.ireturn, 1) := by decide +kernel
theorem dL_law_1193 : decode cL_law 1193 = .ok (.iload 6, 2) := by decide +kernel
theorem dL_law_1195 : decode cL_law 1195 = .ok (.ifCond .ne 15, 3) := by decide +kernel
theorem dL_law_1198 : decode cL_law 1198 = .ok (.aload_n 3, 1) := by decide +kernel
theorem dL_law_1199 : decode cL_law 1199 = .ok (.iconst 0, 1) := by decide +kernel
theorem dL_law_1200 : decode cL_law 1200 = .ok (.laload, 1) := by decide +kernel
theorem dL_law_1201 : decode cL_law 1201 = .ok (.iload 7, 2) := by decide +kernel
theorem dL_law_1203 : decode cL_law 1203 = .ok (.i2l, 1) := by decide +kernel
theorem dL_law_1204 : decode cL_law 1204 = .ok (.lcmp, 1) := by decide +kernel
theorem dL_law_1205 : decode cL_law 1205 = .ok (.ifCond .eq 5, 3) := by decide +kernel
theorem dL_law_1208 : decode cL_law 1208 = .ok (.iconst 0, 1) := by decide +kernel
theorem dL_law_1209 : decode cL_law 1209 = .ok (.ireturn, 1) := by decide +kernel
theorem dL_law_1210 : decode cL_law 1210 = .ok (.goto 2314, 3) := by decide +kernel
theorem dL_law_1213 : decode cL_law 1213 = .ok (.aload_n 1, 1) := by decide +kernel
theorem dL_law_1214 : decode cL_law 1214 = .ok (.aload_n 3, 1) := by decide +kernel
theorem dL_law_1215 : decode cL_law 1215 = .ok (.invokestatic 276, 3) := by decide +kernel
theorem dL_law_1218 : decode cL_law 1218 = .ok (.istore 6, 2) := by decide +kernel
theorem dL_law_1220 : decode cL_law 1220 = .ok (.aload_n 2, 1) := by decide +kernel
theorem dL_law_1221 : decode cL_law 1221 = .ok (.invokevirtual 278, 3) := by decide +kernel
theorem dL_law_1224 : decode cL_law 1224 = .ok (.istore 7, 2) := by decide +kernel
theorem dL_law_1226 : decode cL_law 1226 = .ok (.aload_n 2, 1) := by decide +kernel
theorem dL_law_1227 : decode cL_law 1227 = .ok (.invokevirtual 215, 3) := by decide +kernel
theorem dL_law_1230 : decode cL_law 1230 = .ok (.iload 6, 2) := by decide +kernel
theorem dL_law_1232 : decode cL_law 1232 = .ok (.if_icmp .eq 5, 3) := by decide +kernel
theorem dL_law_1235 : decode cL_law 1235 = .ok (.iconst 0, 1) := by decide +kernel
theorem dL_law_1236 : decode cL_law 1236 = .ok (.ireturn, 1) := by decide +kernel
theorem dL_law_1237 : decode cL_law 1237 = .ok (.iload 6, 2) := by decide +kernel
theorem dL_law_1239 : decode cL_law 1239 = .ok (.ifCond .ne 15, 3) := by decide +kernel
theorem dL_law_1242 : decode cL_law 1242 = .ok (.aload_n 3, 1) := by decide +kernel
theorem dL_law_1243 : decode cL_law 1243 = .ok (.iconst 0, 1) := by decide +kernel
theorem dL_law_1244 : decode cL_law 1244 = .ok (.laload, 1) := by decide +kernel
theorem dL_law_1245 : decode cL_law 1245 = .ok (.iload 7, 2) := by decide +kernel
theorem dL_law_1247 : decode cL_law 1247 = .ok (.i2l, 1) := by decide +kernel
theorem dL_law_1248 : decode cL_law 1248 = .ok (.lcmp, 1) := by decide +kernel
theorem dL_law_1249 : decode cL_law 1249 = .ok (.ifCond .eq 5, 3) := by decide +kernel
theorem dL_law_1252 : decode cL_law 1252 = .ok (.iconst 0, 1) := by decide +kernel
theorem dL_law_1253 : decode cL_law 1253 = .ok (.ireturn, 1) := by decide +kernel
theorem dL_law_1254 : decode cL_law 1254 = .ok (.goto 2270, 3) := by decide +kernel
theorem dL_law_1257 : decode cL_law 1257 = .ok (.aload_n 1, 1) := by decide +kernel
theorem dL_law_1258 : decode cL_law 1258 = .ok (.aload_n 3, 1) := by decide +kernel
theorem dL_law_1259 : decode cL_law 1259 = .ok (.invokestatic 279, 3) := by decide +kernel
theorem dL_law_1262 : decode cL_law 1262 = .ok (.istore 6, 2) := by decide +kernel
theorem dL_law_1264 : decode cL_law 1264 = .ok (.aload_n 2, 1) := by decide +kernel
theorem dL_law_1265 : decode cL_law 1265 = .ok (.invokevirtual 281, 3) := by decide +kernel
theorem dL_law_1268 : decode cL_law 1268 = .ok (.istore 7, 2) := by decide +kernel
theorem dL_law_1270 : decode cL_law 1270 = .ok (.aload_n 2, 1) := by decide +kernel
theorem dL_law_1271 : decode cL_law 1271 = .ok (.invokevirtual 215, 3) := by decide +kernel
theorem dL_law_1274 : decode cL_law 1274 = .ok (.iload 6, 2) := by decide +kernel
theorem dL_law_1276 : decode cL_law 1276 = .ok (.if_icmp .eq 5, 3) := by decide +kernel
theorem dL_law_1279 : decode cL_law 1279 = .ok (.iconst 0, 1) := by decide +kernel
theorem dL_law_1280 : decode cL_law 1280 = .ok (.ireturn, 1) := by decide +kernel
theorem dL_law_1281 : decode cL_law 1281 = .ok (.iload 6, 2) := by decide +kernel
theorem dL_law_1283 : decode cL_law 1283 = .ok (.ifCond .ne 22, 3) := by decide +kernel
theorem dL_law_1286 : decode cL_law 1286 = .ok (.aload_n 3, 1) := by decide +kernel
theorem dL_law_1287 : decode cL_law 1287 = .ok (.iconst 0, 1) := by decide +kernel
theorem dL_law_1288 : decode cL_law 1288 = .ok (.laload, 1) := by decide +kernel
theorem dL_law_1289 : decode cL_law 1289 = .ok (.iload 7, 2) := by decide +kernel
theorem dL_law_1291 : decode cL_law 1291 = .ok (.ifCond .eq 7, 3) := by decide +kernel
theorem dL_law_1294 : decode cL_law 1294 = .ok (.lconst 1, 1) := by decide +kernel
theorem dL_law_1295 : decode cL_law 1295 = .ok (.goto 4, 3) := by decide +kernel
theorem dL_law_1298 : decode cL_law 1298 = .ok (.lconst 0, 1) := by decide +kernel
theorem dL_law_1299 : decode cL_law 1299 = .ok (.lcmp, 1) := by decide +kernel
theorem dL_law_1300 : decode cL_law 1300 = .ok (.ifCond .eq 5, 3) := by decide +kernel
theorem dL_law_1303 : decode cL_law 1303 = .ok (.iconst 0, 1) := by decide +kernel
theorem dL_law_1304 : decode cL_law 1304 = .ok (.ireturn, 1) := by decide +kernel
theorem dL_law_1305 : decode cL_law 1305 = .ok (.goto 2219, 3) := by decide +kernel
theorem dL_law_1308 : decode cL_law 1308 = .ok (.aload_n 1, 1) := by decide +kernel
theorem dL_law_1309 : decode cL_law 1309 = .ok (.aload_n 3, 1) := by decide +kernel
theorem dL_law_1310 : decode cL_law 1310 = .ok (.invokestatic 282, 3) := by decide +kernel
theorem dL_law_1313 : decode cL_law 1313 = .ok (.istore 6, 2) := by decide +kernel
theorem dL_law_1315 : decode cL_law 1315 = .ok (.aload_n 2, 1) := by decide +kernel
theorem dL_law_1316 : decode cL_law 1316 = .ok (.invokevirtual 284, 3) := by decide +kernel
theorem dL_law_1319 : decode cL_law 1319 = .ok (.istore 7, 2) := by decide +kernel
theorem dL_law_1321 : decode cL_law 1321 = .ok (.aload_n 2, 1) := by decide +kernel
theorem dL_law_1322 : decode cL_law 1322 = .ok (.invokevirtual 215, 3) := by decide +kernel
theorem dL_law_1325 : decode cL_law 1325 = .ok (.iload 6, 2) := by decide +kernel
theorem dL_law_1327 : decode cL_law 1327 = .ok (.if_icmp .eq 5, 3) := by decide +kernel
theorem dL_law_1330 : decode cL_law 1330 = .ok (.iconst 0, 1) := by decide +kernel
theorem dL_law_1331 : decode cL_law 1331 = .ok (.ireturn, 1) := by decide +kernel
theorem dL_law_1332 : decode cL_law 1332 = .ok (.iload 6, 2) := by decide +kernel
theorem dL_law_1334 : decode cL_law 1334 = .ok (.ifCond .ne 15, 3) := by decide +kernel
theorem dL_law_1337 : decode cL_law 1337 = .ok (.aload_n 3, 1) := by decide +kernel
theorem dL_law_1338 : decode cL_law 1338 = .ok (.iconst 0, 1) := by decide +kernel
theorem dL_law_1339 : decode cL_law 1339 = .ok (.laload, 1) := by decide +kernel
theorem dL_law_1340 : decode cL_law 1340 = .ok (.iload 7, 2) := by decide +kernel
theorem dL_law_1342 : decode cL_law 1342 = .ok (.i2l, 1) := by decide +kernel
theorem dL_law_1343 : decode cL_law 1343 = .ok (.lcmp, 1) := by decide +kernel
theorem dL_law_1344 : decode cL_law 1344 = .ok (.ifCond .eq 5, 3) := by decide +kernel
theorem dL_law_1347 : decode cL_law 1347 = .ok (.iconst 0, 1) := by decide +kernel
theorem dL_law_1348 : decode cL_law 1348 = .ok (.ireturn, 1) := by decide +kernel
theorem dL_law_1349 : decode cL_law 1349 = .ok (.goto 2175, 3) := by decide +kernel
theorem dL_law_1352 : decode cL_law 1352 = .ok (.aload_n 1, 1) := by decide +kernel
theorem dL_law_1353 : decode cL_law 1353 = .ok (.aload_n 3, 1) := by decide +kernel
theorem dL_law_1354 : decode cL_law 1354 = .ok (.invokestatic 285, 3) := by decide +kernel
theorem dL_law_1357 : decode cL_law 1357 = .ok (.istore 6, 2) := by decide +kernel
theorem dL_law_1359 : decode cL_law 1359 = .ok (.aload_n 2, 1) := by decide +kernel
theorem dL_law_1360 : decode cL_law 1360 = .ok (.invokevirtual 287, 3) := by decide +kernel
theorem dL_law_1363 : decode cL_law 1363 = .ok (.istore 7, 2) := by decide +kernel
theorem dL_law_1365 : decode cL_law 1365 = .ok (.aload_n 2, 1) := by decide +kernel
theorem dL_law_1366 : decode cL_law 1366 = .ok (.invokevirtual 215, 3) := by decide +kernel
theorem dL_law_1369 : decode cL_law 1369 = .ok (.iload 6, 2) := by decide +kernel
theorem dL_law_1371 : decode cL_law 1371 = .ok (.if_icmp .eq 5, 3) := by decide +kernel
theorem dL_law_1374 : decode cL_law 1374 = .ok (.iconst 0, 1) := by decide +kernel
theorem dL_law_1375 : decode cL_law 1375 = .ok (.ireturn, 1) := by decide +kernel
theorem dL_law_1376 : decode cL_law 1376 = .ok (.iload 6, 2) := by decide +kernel
theorem dL_law_1378 : decode cL_law 1378 = .ok (.ifCond .ne 15, 3) := by decide +kernel
theorem dL_law_1381 : decode cL_law 1381 = .ok (.aload_n 3, 1) := by decide +kernel
theorem dL_law_1382 : decode cL_law 1382 = .ok (.iconst 0, 1) := by decide +kernel
theorem dL_law_1383 : decode cL_law 1383 = .ok (.laload, 1) := by decide +kernel
theorem dL_law_1384 : decode cL_law 1384 = .ok (.iload 7, 2) := by decide +kernel
theorem dL_law_1386 : decode cL_law 1386 = .ok (.i2l, 1) := by decide +kernel
theorem dL_law_1387 : decode cL_law 1387 = .ok (.lcmp, 1) := by decide +kernel
theorem dL_law_1388 : decode cL_law 1388 = .ok (.ifCond .eq 5, 3) := by decide +kernel
theorem dL_law_1391 : decode cL_law 1391 = .ok (.iconst 0, 1) := by decide +kernel
theorem dL_law_1392 : decode cL_law 1392 = .ok (.ireturn, 1) := by decide +kernel
theorem dL_law_1393 : decode cL_law 1393 = .ok (.goto 2131, 3) := by decide +kernel
theorem dL_law_1396 : decode cL_law 1396 = .ok (.aload_n 1, 1) := by decide +kernel
theorem dL_law_1397 : decode cL_law 1397 = .ok (.aload_n 3, 1) := by decide +kernel
theorem dL_law_1398 : decode cL_law 1398 = .ok (.invokestatic 288, 3) := by decide +kernel
theorem dL_law_1401 : decode cL_law 1401 = .ok (.istore 6, 2) := by decide +kernel
theorem dL_law_1403 : decode cL_law 1403 = .ok (.aload_n 2, 1) := by decide +kernel
theorem dL_law_1404 : decode cL_law 1404 = .ok (.invokevirtual 290, 3) := by decide +kernel
theorem dL_law_1407 : decode cL_law 1407 = .ok (.istore 7, 2) := by decide +kernel
theorem dL_law_1409 : decode cL_law 1409 = .ok (.aload_n 2, 1) := by decide +kernel
theorem dL_law_1410 : decode cL_law 1410 = .ok (.invokevirtual 215, 3) := by decide +kernel
theorem dL_law_1413 : decode cL_law 1413 = .ok (.iload 6, 2) := by decide +kernel
theorem dL_law_1415 : decode cL_law 1415 = .ok (.if_icmp .eq 5, 3) := by decide +kernel
theorem dL_law_1418 : decode cL_law 1418 = .ok (.iconst 0, 1) := by decide +kernel
theorem dL_law_1419 : decode cL_law 1419 = .ok (.ireturn, 1) := by decide +kernel
theorem dL_law_1420 : decode cL_law 1420 = .ok (.iload 6, 2) := by decide +kernel
theorem dL_law_1422 : decode cL_law 1422 = .ok (.ifCond .ne 15, 3) := by decide +kernel
theorem dL_law_1425 : decode cL_law 1425 = .ok (.aload_n 3, 1) := by decide +kernel
theorem dL_law_1426 : decode cL_law 1426 = .ok (.iconst 0, 1) := by decide +kernel
theorem dL_law_1427 : decode cL_law 1427 = .ok (.laload, 1) := by decide +kernel
theorem dL_law_1428 : decode cL_law 1428 = .ok (.iload 7, 2) := by decide +kernel
theorem dL_law_1430 : decode cL_law 1430 = .ok (.i2l, 1) := by decide +kernel
theorem dL_law_1431 : decode cL_law 1431 = .ok (.lcmp, 1) := by decide +kernel
theorem dL_law_1432 : decode cL_law 1432 = .ok (.ifCond .eq 5, 3) := by decide +kernel
theorem dL_law_1435 : decode cL_law 1435 = .ok (.iconst 0, 1) := by decide +kernel
theorem dL_law_1436 : decode cL_law 1436 = .ok (.ireturn, 1) := by decide +kernel
theorem dL_law_1437 : decode cL_law 1437 = .ok (.goto 2087, 3) := by decide +kernel
theorem dL_law_1440 : decode cL_law 1440 = .ok (.aload_n 1, 1) := by decide +kernel
theorem dL_law_1441 : decode cL_law 1441 = .ok (.aload_n 3, 1) := by decide +kernel
theorem dL_law_1442 : decode cL_law 1442 = .ok (.invokestatic 291, 3) := by decide +kernel
theorem dL_law_1445 : decode cL_law 1445 = .ok (.istore 6, 2) := by decide +kernel
theorem dL_law_1447 : decode cL_law 1447 = .ok (.aload_n 2, 1) := by decide +kernel
theorem dL_law_1448 : decode cL_law 1448 = .ok (.invokevirtual 293, 3) := by decide +kernel
theorem dL_law_1451 : decode cL_law 1451 = .ok (.istore 7, 2) := by decide +kernel
theorem dL_law_1453 : decode cL_law 1453 = .ok (.aload_n 2, 1) := by decide +kernel
theorem dL_law_1454 : decode cL_law 1454 = .ok (.invokevirtual 215, 3) := by decide +kernel
theorem dL_law_1457 : decode cL_law 1457 = .ok (.iload 6, 2) := by decide +kernel
theorem dL_law_1459 : decode cL_law 1459 = .ok (.if_icmp .eq 5, 3) := by decide +kernel
theorem dL_law_1462 : decode cL_law 1462 = .ok (.iconst 0, 1) := by decide +kernel
theorem dL_law_1463 : decode cL_law 1463 = .ok (.ireturn, 1) := by decide +kernel
theorem dL_law_1464 : decode cL_law 1464 = .ok (.iload 6, 2) := by decide +kernel
theorem dL_law_1466 : decode cL_law 1466 = .ok (.ifCond .ne 15, 3) := by decide +kernel
theorem dL_law_1469 : decode cL_law 1469 = .ok (.aload_n 3, 1) := by decide +kernel
theorem dL_law_1470 : decode cL_law 1470 = .ok (.iconst 0, 1) := by decide +kernel
theorem dL_law_1471 : decode cL_law 1471 = .ok (.laload, 1) := by decide +kernel
theorem dL_law_1472 : decode cL_law 1472 = .ok (.iload 7, 2) := by decide +kernel
theorem dL_law_1474 : decode cL_law 1474 = .ok (.i2l, 1) := by decide +kernel
theorem dL_law_1475 : decode cL_law 1475 = .ok (.lcmp, 1) := by decide +kernel
theorem dL_law_1476 : decode cL_law 1476 = .ok (.ifCond .eq 5, 3) := by decide +kernel
theorem dL_law_1479 : decode cL_law 1479 = .ok (.iconst 0, 1) := by decide +kernel
theorem dL_law_1480 : decode cL_law 1480 = .ok (.ireturn, 1) := by decide +kernel
theorem dL_law_1481 : decode cL_law 1481 = .ok (.goto 2043, 3) := by decide +kernel
theorem dL_law_1484 : decode cL_law 1484 = .ok (.aload_n 1, 1) := by decide +kernel
theorem dL_law_1485 : decode cL_law 1485 = .ok (.aload_n 3, 1) := by decide +kernel
theorem dL_law_1486 : decode cL_law 1486 = .ok (.invokestatic 294, 3) := by decide +kernel
theorem dL_law_1489 : decode cL_law 1489 = .ok (.istore 6, 2) := by decide +kernel
theorem dL_law_1491 : decode cL_law 1491 = .ok (.aload_n 2, 1) := by decide +kernel
theorem dL_law_1492 : decode cL_law 1492 = .ok (.invokevirtual 296, 3) := by decide +kernel
theorem dL_law_1495 : decode cL_law 1495 = .ok (.istore 7, 2) := by decide +kernel
theorem dL_law_1497 : decode cL_law 1497 = .ok (.aload_n 2, 1) := by decide +kernel
theorem dL_law_1498 : decode cL_law 1498 = .ok (.invokevirtual 215, 3) := by decide +kernel
theorem dL_law_1501 : decode cL_law 1501 = .ok (.iload 6, 2) := by decide +kernel
theorem dL_law_1503 : decode cL_law 1503 = .ok (.if_icmp .eq 5, 3) := by decide +kernel
theorem dL_law_1506 : decode cL_law 1506 = .ok (.iconst 0, 1) := by decide +kernel
theorem dL_law_1507 : decode cL_law 1507 = .ok (.ireturn, 1) := by decide +kernel
theorem dL_law_1508 : decode cL_law 1508 = .ok (.iload 6, 2) := by decide +kernel
theorem dL_law_1510 : decode cL_law 1510 = .ok (.ifCond .ne 15, 3) := by decide +kernel
theorem dL_law_1513 : decode cL_law 1513 = .ok (.aload_n 3, 1) := by decide +kernel
theorem dL_law_1514 : decode cL_law 1514 = .ok (.iconst 0, 1) := by decide +kernel
theorem dL_law_1515 : decode cL_law 1515 = .ok (.laload, 1) := by decide +kernel
theorem dL_law_1516 : decode cL_law 1516 = .ok (.iload 7, 2) := by decide +kernel
theorem dL_law_1518 : decode cL_law 1518 = .ok (.i2l, 1) := by decide +kernel
theorem dL_law_1519 : decode cL_law 1519 = .ok (.lcmp, 1) := by decide +kernel
theorem dL_law_1520 : decode cL_law 1520 = .ok (.ifCond .eq 5, 3) := by decide +kernel
theorem dL_law_1523 : decode cL_law 1523 = .ok (.iconst 0, 1) := by decide +kernel
theorem dL_law_1524 : decode cL_law 1524 = .ok (.ireturn, 1) := by decide +kernel
theorem dL_law_1525 : decode cL_law 1525 = .ok (.goto 1999, 3) := by decide +kernel
theorem dL_law_1528 : decode cL_law 1528 = .ok (.aload_n 1, 1) := by decide +kernel
theorem dL_law_1529 : decode cL_law 1529 = .ok (.aload_n 3, 1) := by decide +kernel
theorem dL_law_1530 : decode cL_law 1530 = .ok (.invokestatic 297, 3) := by decide +kernel
theorem dL_law_1533 : decode cL_law 1533 = .ok (.istore 6, 2) := by decide +kernel
theorem dL_law_1535 : decode cL_law 1535 = .ok (.aload_n 2, 1) := by decide +kernel
theorem dL_law_1536 : decode cL_law 1536 = .ok (.invokevirtual 299, 3) := by decide +kernel
theorem dL_law_1539 : decode cL_law 1539 = .ok (.istore 7, 2) := by decide +kernel
theorem dL_law_1541 : decode cL_law 1541 = .ok (.aload_n 2, 1) := by decide +kernel
theorem dL_law_1542 : decode cL_law 1542 = .ok (.invokevirtual 215, 3) := by decide +kernel
theorem dL_law_1545 : decode cL_law 1545 = .ok (.iload 6, 2) := by decide +kernel
theorem dL_law_1547 : decode cL_law 1547 = .ok (.if_icmp .eq 5, 3) := by decide +kernel
theorem dL_law_1550 : decode cL_law 1550 = .ok (.iconst 0, 1) := by decide +kernel
theorem dL_law_1551 : decode cL_law 1551 = .ok (.ireturn, 1) := by decide +kernel
theorem dL_law_1552 : decode cL_law 1552 = .ok (.iload 6, 2) := by decide +kernel
theorem dL_law_1554 : decode cL_law 1554 = .ok (.ifCond .ne 15, 3) := by decide +kernel
theorem dL_law_1557 : decode cL_law 1557 = .ok (.aload_n 3, 1) := by decide +kernel
theorem dL_law_1558 : decode cL_law 1558 = .ok (.iconst 0, 1) := by decide +kernel
theorem dL_law_1559 : decode cL_law 1559 = .ok (.laload, 1) := by decide +kernel
theorem dL_law_1560 : decode cL_law 1560 = .ok (.iload 7, 2) := by decide +kernel
theorem dL_law_1562 : decode cL_law 1562 = .ok (.i2l, 1) := by decide +kernel
theorem dL_law_1563 : decode cL_law 1563 = .ok (.lcmp, 1) := by decide +kernel
theorem dL_law_1564 : decode cL_law 1564 = .ok (.ifCond .eq 5, 3) := by decide +kernel
theorem dL_law_1567 : decode cL_law 1567 = .ok (.iconst 0, 1) := by decide +kernel
theorem dL_law_1568 : decode cL_law 1568 = .ok (.ireturn, 1) := by decide +kernel
theorem dL_law_1569 : decode cL_law 1569 = .ok (.goto 1955, 3) := by decide +kernel
theorem dL_law_1572 : decode cL_law 1572 = .ok (.aload_n 1, 1) := by decide +kernel
theorem dL_law_1573 : decode cL_law 1573 = .ok (.aload_n 3, 1) := by decide +kernel
theorem dL_law_1574 : decode cL_law 1574 = .ok (.invokestatic 300, 3) := by decide +kernel
theorem dL_law_1577 : decode cL_law 1577 = .ok (.istore 6, 2) := by decide +kernel
theorem dL_law_1579 : decode cL_law 1579 = .ok (.aload_n 2, 1) := by decide +kernel
theorem dL_law_1580 : decode cL_law 1580 = .ok (.invokevirtual 302, 3) := by decide +kernel
theorem dL_law_1583 : decode cL_law 1583 = .ok (.istore 7, 2) := by decide +kernel
theorem dL_law_1585 : decode cL_law 1585 = .ok (.aload_n 2, 1) := by decide +kernel
theorem dL_law_1586 : decode cL_law 1586 = .ok (.invokevirtual 215, 3) := by decide +kernel
theorem dL_law_1589 : decode cL_law 1589 = .ok (.iload 6, 2) := by decide +kernel
theorem dL_law_1591 : decode cL_law 1591 = .ok (.if_icmp .eq 5, 3) := by decide +kernel
theorem dL_law_1594 : decode cL_law 1594 = .ok (.iconst 0, 1) := by decide +kernel
theorem dL_law_1595 : decode cL_law 1595 = .ok (.ireturn, 1) := by decide +kernel
theorem dL_law_1596 : decode cL_law 1596 = .ok (.iload 6, 2) := by decide +kernel
theorem dL_law_1598 : decode cL_law 1598 = .ok (.ifCond .ne 15, 3) := by decide +kernel
theorem dL_law_1601 : decode cL_law 1601 = .ok (.aload_n 3, 1) := by decide +kernel
theorem dL_law_1602 : decode cL_law 1602 = .ok (.iconst 0, 1) := by decide +kernel
theorem dL_law_1603 : decode cL_law 1603 = .ok (.laload, 1) := by decide +kernel
theorem dL_law_1604 : decode cL_law 1604 = .ok (.iload 7, 2) := by decide +kernel
theorem dL_law_1606 : decode cL_law 1606 = .ok (.i2l, 1) := by decide +kernel
theorem dL_law_1607 : decode cL_law 1607 = .ok (.lcmp, 1) := by decide +kernel
theorem dL_law_1608 : decode cL_law 1608 = .ok (.ifCond .eq 5, 3) := by decide +kernel
theorem dL_law_1611 : decode cL_law 1611 = .ok (.iconst 0, 1) := by decide +kernel
theorem dL_law_1612 : decode cL_law 1612 = .ok (.ireturn, 1) := by decide +kernel
theorem dL_law_1613 : decode cL_law 1613 = .ok (.goto 1911, 3) := by decide +kernel
theorem dL_law_1616 : decode cL_law 1616 = .ok (.aload_n 1, 1) := by decide +kernel
theorem dL_law_1617 : decode cL_law 1617 = .ok (.aload_n 0, 1) := by decide +kernel
theorem dL_law_1618 : decode cL_law 1618 = .ok (.iload 5, 2) := by decide +kernel
theorem dL_law_1620 : decode cL_law 1620 = .ok (.iconst 1, 1) := by decide +kernel
theorem dL_law_1621 : decode cL_law 1621 = .ok (.iadd, 1) := by decide +kernel
theorem dL_law_1622 : decode cL_law 1622 = .ok (.iaload, 1) := by decide +kernel
theorem dL_law_1623 : decode cL_law 1623 = .ok (.aload_n 3, 1) := by decide +kernel
theorem dL_law_1624 : decode cL_law 1624 = .ok (.invokestatic 303, 3) := by decide +kernel
theorem dL_law_1627 : decode cL_law 1627 = .ok (.istore 6, 2) := by decide +kernel
theorem dL_law_1629 : decode cL_law 1629 = .ok (.aload_n 2, 1) := by decide +kernel
theorem dL_law_1630 : decode cL_law 1630 = .ok (.aload_n 0, 1) := by decide +kernel
theorem dL_law_1631 : decode cL_law 1631 = .ok (.iload 5, 2) := by decide +kernel
theorem dL_law_1633 : decode cL_law 1633 = .ok (.iconst 1, 1) := by decide +kernel
theorem dL_law_1634 : decode cL_law 1634 = .ok (.iadd, 1) := by decide +kernel
theorem dL_law_1635 : decode cL_law 1635 = .ok (.iaload, 1) := by decide +kernel
theorem dL_law_1636 : decode cL_law 1636 = .ok (.invokevirtual 305, 3) := by decide +kernel
theorem dL_law_1639 : decode cL_law 1639 = .ok (.istore 7, 2) := by decide +kernel
theorem dL_law_1641 : decode cL_law 1641 = .ok (.aload_n 2, 1) := by decide +kernel
theorem dL_law_1642 : decode cL_law 1642 = .ok (.invokevirtual 215, 3) := by decide +kernel
theorem dL_law_1645 : decode cL_law 1645 = .ok (.iload 6, 2) := by decide +kernel
theorem dL_law_1647 : decode cL_law 1647 = .ok (.if_icmp .eq 5, 3) := by decide +kernel
theorem dL_law_1650 : decode cL_law 1650 = .ok (.iconst 0, 1) := by decide +kernel
theorem dL_law_1651 : decode cL_law 1651 = .ok (.ireturn, 1) := by decide +kernel
theorem dL_law_1652 : decode cL_law 1652 = .ok (.iload 6, 2) := by decide +kernel
theorem dL_law_1654 : decode cL_law 1654 = .ok (.ifCond .ne 15, 3) := by decide +kernel
theorem dL_law_1657 : decode cL_law 1657 = .ok (.aload_n 3, 1) := by decide +kernel
theorem dL_law_1658 : decode cL_law 1658 = .ok (.iconst 0, 1) := by decide +kernel
theorem dL_law_1659 : decode cL_law 1659 = .ok (.laload, 1) := by decide +kernel
theorem dL_law_1660 : decode cL_law 1660 = .ok (.iload 7, 2) := by decide +kernel
theorem dL_law_1662 : decode cL_law 1662 = .ok (.i2l, 1) := by decide +kernel
theorem dL_law_1663 : decode cL_law 1663 = .ok (.lcmp, 1) := by decide +kernel
theorem dL_law_1664 : decode cL_law 1664 = .ok (.ifCond .eq 5, 3) := by decide +kernel
theorem dL_law_1667 : decode cL_law 1667 = .ok (.iconst 0, 1) := by decide +kernel
theorem dL_law_1668 : decode cL_law 1668 = .ok (.ireturn, 1) := by decide +kernel
theorem dL_law_1669 : decode cL_law 1669 = .ok (.goto 1855, 3) := by decide +kernel
theorem dL_law_1672 : decode cL_law 1672 = .ok (.aload_n 1, 1) := by decide +kernel
theorem dL_law_1673 : decode cL_law 1673 = .ok (.aload_n 3, 1) := by decide +kernel
theorem dL_law_1674 : decode cL_law 1674 = .ok (.invokestatic 306, 3) := by decide +kernel
theorem dL_law_1677 : decode cL_law 1677 = .ok (.istore 6, 2) := by decide +kernel
theorem dL_law_1679 : decode cL_law 1679 = .ok (.aload_n 2, 1) := by decide +kernel
theorem dL_law_1680 : decode cL_law 1680 = .ok (.invokevirtual 308, 3) := by decide +kernel
theorem dL_law_1683 : decode cL_law 1683 = .ok (.istore 7, 2) := by decide +kernel
theorem dL_law_1685 : decode cL_law 1685 = .ok (.aload_n 2, 1) := by decide +kernel
theorem dL_law_1686 : decode cL_law 1686 = .ok (.invokevirtual 215, 3) := by decide +kernel
theorem dL_law_1689 : decode cL_law 1689 = .ok (.iload 6, 2) := by decide +kernel
theorem dL_law_1691 : decode cL_law 1691 = .ok (.if_icmp .eq 5, 3) := by decide +kernel
theorem dL_law_1694 : decode cL_law 1694 = .ok (.iconst 0, 1) := by decide +kernel
theorem dL_law_1695 : decode cL_law 1695 = .ok (.ireturn, 1) := by decide +kernel
theorem dL_law_1696 : decode cL_law 1696 = .ok (.iload 6, 2) := by decide +kernel
theorem dL_law_1698 : decode cL_law 1698 = .ok (.ifCond .ne 15, 3) := by decide +kernel
theorem dL_law_1701 : decode cL_law 1701 = .ok (.aload_n 3, 1) := by decide +kernel
theorem dL_law_1702 : decode cL_law 1702 = .ok (.iconst 0, 1) := by decide +kernel
theorem dL_law_1703 : decode cL_law 1703 = .ok (.laload, 1) := by decide +kernel
theorem dL_law_1704 : decode cL_law 1704 = .ok (.iload 7, 2) := by decide +kernel
theorem dL_law_1706 : decode cL_law 1706 = .ok (.i2l, 1) := by decide +kernel
theorem dL_law_1707 : decode cL_law 1707 = .ok (.lcmp, 1) := by decide +kernel
theorem dL_law_1708 : decode cL_law 1708 = .ok (.ifCond .eq 5, 3) := by decide +kernel
theorem dL_law_1711 : decode cL_law 1711 = .ok (.iconst 0, 1) := by decide +kernel
theorem dL_law_1712 : decode cL_law 1712 = .ok (.ireturn, 1) := by decide +kernel
theorem dL_law_1713 : decode cL_law 1713 = .ok (.goto 1811, 3) := by decide +kernel
theorem dL_law_1716 : decode cL_law 1716 = .ok (.aload_n 1, 1) := by decide +kernel
theorem dL_law_1717 : decode cL_law 1717 = .ok (.aload_n 0, 1) := by decide +kernel
theorem dL_law_1718 : decode cL_law 1718 = .ok (.iload 5, 2) := by decide +kernel
theorem dL_law_1720 : decode cL_law 1720 = .ok (.iconst 1, 1) := by decide +kernel
theorem dL_law_1721 : decode cL_law 1721 = .ok (.iadd, 1) := by decide +kernel
theorem dL_law_1722 : decode cL_law 1722 = .ok (.iaload, 1) := by decide +kernel
theorem dL_law_1723 : decode cL_law 1723 = .ok (.aload_n 3, 1) := by decide +kernel
theorem dL_law_1724 : decode cL_law 1724 = .ok (.invokestatic 309, 3) := by decide +kernel
theorem dL_law_1727 : decode cL_law 1727 = .ok (.istore 6, 2) := by decide +kernel
theorem dL_law_1729 : decode cL_law 1729 = .ok (.aload_n 2, 1) := by decide +kernel
theorem dL_law_1730 : decode cL_law 1730 = .ok (.aload_n 0, 1) := by decide +kernel
theorem dL_law_1731 : decode cL_law 1731 = .ok (.iload 5, 2) := by decide +kernel
theorem dL_law_1733 : decode cL_law 1733 = .ok (.iconst 1, 1) := by decide +kernel
theorem dL_law_1734 : decode cL_law 1734 = .ok (.iadd, 1) := by decide +kernel
theorem dL_law_1735 : decode cL_law 1735 = .ok (.iaload, 1) := by decide +kernel
theorem dL_law_1736 : decode cL_law 1736 = .ok (.invokevirtual 311, 3) := by decide +kernel
theorem dL_law_1739 : decode cL_law 1739 = .ok (.istore 7, 2) := by decide +kernel
theorem dL_law_1741 : decode cL_law 1741 = .ok (.aload_n 2, 1) := by decide +kernel
theorem dL_law_1742 : decode cL_law 1742 = .ok (.invokevirtual 215, 3) := by decide +kernel
theorem dL_law_1745 : decode cL_law 1745 = .ok (.iload 6, 2) := by decide +kernel
theorem dL_law_1747 : decode cL_law 1747 = .ok (.if_icmp .eq 5, 3) := by decide +kernel
theorem dL_law_1750 : decode cL_law 1750 = .ok (.iconst 0, 1) := by decide +kernel
theorem dL_law_1751 : decode cL_law 1751 = .ok (.ireturn, 1) := by decide +kernel
theorem dL_law_1752 : decode cL_law 1752 = .ok (.iload 6, 2) := by decide +kernel
theorem dL_law_1754 : decode cL_law 1754 = .ok (.ifCond .ne 22, 3) := by decide +kernel
theorem dL_law_1757 : decode cL_law 1757 = .ok (.aload_n 3, 1) := by decide +kernel
theorem dL_law_1758 : decode cL_law 1758 = .ok (.iconst 0, 1) := by decide +kernel
theorem dL_law_1759 : decode cL_law 1759 = .ok (.laload, 1) := by decide +kernel
theorem dL_law_1760 : decode cL_law 1760 = .ok (.iload 7, 2) := by decide +kernel
theorem dL_law_1762 : decode cL_law 1762 = .ok (.ifCond .eq 7, 3) := by decide +kernel
theorem dL_law_1765 : decode cL_law 1765 = .ok (.lconst 1, 1) := by decide +kernel
theorem dL_law_1766 : decode cL_law 1766 = .ok (.goto 4, 3) := by decide +kernel
theorem dL_law_1769 : decode cL_law 1769 = .ok (.lconst 0, 1) := by decide +kernel
theorem dL_law_1770 : decode cL_law 1770 = .ok (.lcmp, 1) := by decide +kernel
theorem dL_law_1771 : decode cL_law 1771 = .ok (.ifCond .eq 5, 3) := by decide +kernel
theorem dL_law_1774 : decode cL_law 1774 = .ok (.iconst 0, 1) := by decide +kernel
theorem dL_law_1775 : decode cL_law 1775 = .ok (.ireturn, 1) := by decide +kernel
theorem dL_law_1776 : decode cL_law 1776 = .ok (.goto 1748, 3) := by decide +kernel
theorem dL_law_1779 : decode cL_law 1779 = .ok (.aload_n 1, 1) := by decide +kernel
theorem dL_law_1780 : decode cL_law 1780 = .ok (.aload_n 3, 1) := by decide +kernel
theorem dL_law_1781 : decode cL_law 1781 = .ok (.invokestatic 312, 3) := by decide +kernel
theorem dL_law_1784 : decode cL_law 1784 = .ok (.istore 6, 2) := by decide +kernel
theorem dL_law_1786 : decode cL_law 1786 = .ok (.aload_n 2, 1) := by decide +kernel
theorem dL_law_1787 : decode cL_law 1787 = .ok (.invokevirtual 314, 3) := by decide +kernel
theorem dL_law_1790 : decode cL_law 1790 = .ok (.istore 7, 2) := by decide +kernel
theorem dL_law_1792 : decode cL_law 1792 = .ok (.aload_n 2, 1) := by decide +kernel
theorem dL_law_1793 : decode cL_law 1793 = .ok (.invokevirtual 215, 3) := by decide +kernel
theorem dL_law_1796 : decode cL_law 1796 = .ok (.iload 6, 2) := by decide +kernel
theorem dL_law_1798 : decode cL_law 1798 = .ok (.if_icmp .eq 5, 3) := by decide +kernel
theorem dL_law_1801 : decode cL_law 1801 = .ok (.iconst 0, 1) := by decide +kernel
theorem dL_law_1802 : decode cL_law 1802 = .ok (.ireturn, 1) := by decide +kernel
theorem dL_law_1803 : decode cL_law 1803 = .ok (.iload 6, 2) := by decide +kernel
theorem dL_law_1805 : decode cL_law 1805 = .ok (.ifCond .ne 15, 3) := by decide +kernel
theorem dL_law_1808 : decode cL_law 1808 = .ok (.aload_n 3, 1) := by decide +kernel
theorem dL_law_1809 : decode cL_law 1809 = .ok (.iconst 0, 1) := by decide +kernel
theorem dL_law_1810 : decode cL_law 1810 = .ok (.laload, 1) := by decide +kernel
theorem dL_law_1811 : decode cL_law 1811 = .ok (.iload 7, 2) := by decide +kernel
theorem dL_law_1813 : decode cL_law 1813 = .ok (.i2l, 1) := by decide +kernel
theorem dL_law_1814 : decode cL_law 1814 = .ok (.lcmp, 1) := by decide +kernel
theorem dL_law_1815 : decode cL_law 1815 = .ok (.ifCond .eq 5, 3) := by decide +kernel
theorem dL_law_1818 : decode cL_law 1818 = .ok (.iconst 0, 1) := by decide +kernel
theorem dL_law_1819 : decode cL_law 1819 = .ok (.ireturn, 1) := by decide +kernel
theorem dL_law_1820 : decode cL_law 1820 = .ok (.goto 1704, 3) := by decide +kernel
theorem dL_law_1823 : decode cL_law 1823 = .ok (.aload_n 1, 1) := by decide +kernel
theorem dL_law_1824 : decode cL_law 1824 = .ok (.aload_n 0, 1) := by decide +kernel
theorem dL_law_1825 : decode cL_law 1825 = .ok (.iload 5, 2) := by decide +kernel
theorem dL_law_1827 : decode cL_law 1827 = .ok (.iconst 1, 1) := by decide +kernel
theorem dL_law_1828 : decode cL_law 1828 = .ok (.iadd, 1) := by decide +kernel
theorem dL_law_1829 : decode cL_law 1829 = .ok (.iaload, 1) := by decide +kernel
theorem dL_law_1830 : decode cL_law 1830 = .ok (.aload_n 3, 1) := by decide +kernel
theorem dL_law_1831 : decode cL_law 1831 = .ok (.invokestatic 315, 3) := by decide +kernel
theorem dL_law_1834 : decode cL_law 1834 = .ok (.istore 6, 2) := by decide +kernel
theorem dL_law_1836 : decode cL_law 1836 = .ok (.aload_n 2, 1) := by decide +kernel
theorem dL_law_1837 : decode cL_law 1837 = .ok (.aload_n 0, 1) := by decide +kernel
theorem dL_law_1838 : decode cL_law 1838 = .ok (.iload 5, 2) := by decide +kernel
theorem dL_law_1840 : decode cL_law 1840 = .ok (.iconst 1, 1) := by decide +kernel
theorem dL_law_1841 : decode cL_law 1841 = .ok (.iadd, 1) := by decide +kernel
theorem dL_law_1842 : decode cL_law 1842 = .ok (.iaload, 1) := by decide +kernel
theorem dL_law_1843 : decode cL_law 1843 = .ok (.invokevirtual 317, 3) := by decide +kernel
theorem dL_law_1846 : decode cL_law 1846 = .ok (.istore 7, 2) := by decide +kernel
theorem dL_law_1848 : decode cL_law 1848 = .ok (.aload_n 2, 1) := by decide +kernel
theorem dL_law_1849 : decode cL_law 1849 = .ok (.invokevirtual 215, 3) := by decide +kernel
theorem dL_law_1852 : decode cL_law 1852 = .ok (.iload 6, 2) := by decide +kernel
theorem dL_law_1854 : decode cL_law 1854 = .ok (.if_icmp .eq 5, 3) := by decide +kernel
theorem dL_law_1857 : decode cL_law 1857 = .ok (.iconst 0, 1) := by decide +kernel
theorem dL_law_1858 : decode cL_law 1858 = .ok (.ireturn, 1) := by decide +kernel
theorem dL_law_1859 : decode cL_law 1859 = .ok (.iload 6, 2) := by decide +kernel
theorem dL_law_1861 : decode cL_law 1861 = .ok (.ifCond .ne 22, 3) := by decide +kernel
theorem dL_law_1864 : decode cL_law 1864 = .ok (.aload_n 3, 1) := by decide +kernel
theorem dL_law_1865 : decode cL_law 1865 = .ok (.iconst 0, 1) := by decide +kernel
theorem dL_law_1866 : decode cL_law 1866 = .ok (.laload, 1) := by decide +kernel
theorem dL_law_1867 : decode cL_law 1867 = .ok (.iload 7, 2) := by decide +kernel
theorem dL_law_1869 : decode cL_law 1869 = .ok (.ifCond .eq 7, 3) := by decide +kernel
theorem dL_law_1872 : decode cL_law 1872 = .ok (.lconst 1, 1) := by decide +kernel
theorem dL_law_1873 : decode cL_law 1873 = .ok (.goto 4, 3) := by decide +kernel
theorem dL_law_1876 : decode cL_law 1876 = .ok (.lconst 0, 1) := by decide +kernel
theorem dL_law_1877 : decode cL_law 1877 = .ok (.lcmp, 1) := by decide +kernel
theorem dL_law_1878 : decode cL_law 1878 = .ok (.ifCond .eq 5, 3) := by decide +kernel
theorem dL_law_1881 : decode cL_law 1881 = .ok (.iconst 0, 1) := by decide +kernel
theorem dL_law_1882 : decode cL_law 1882 = .ok (.ireturn, 1) := by decide +kernel
theorem dL_law_1883 : decode cL_law 1883 = .ok (.goto 1641, 3) := by decide +kernel
theorem dL_law_1886 : decode cL_law 1886 = .ok (.aload_n 1, 1) := by decide +kernel
theorem dL_law_1887 : decode cL_law 1887 = .ok (.aload_n 0, 1) := by decide +kernel
theorem dL_law_1888 : decode cL_law 1888 = .ok (.iload 5, 2) := by decide +kernel
theorem dL_law_1890 : decode cL_law 1890 = .ok (.iconst 1, 1) := by decide +kernel
theorem dL_law_1891 : decode cL_law 1891 = .ok (.iadd, 1) := by decide +kernel
theorem dL_law_1892 : decode cL_law 1892 = .ok (.iaload, 1) := by decide +kernel
theorem dL_law_1893 : decode cL_law 1893 = .ok (.aload_n 3, 1) := by decide +kernel
theorem dL_law_1894 : decode cL_law 1894 = .ok (.invokestatic 318, 3) := by decide +kernel
theorem dL_law_1897 : decode cL_law 1897 = .ok (.istore 6, 2) := by decide +kernel
theorem dL_law_1899 : decode cL_law 1899 = .ok (.aload_n 2, 1) := by decide +kernel
theorem dL_law_1900 : decode cL_law 1900 = .ok (.aload_n 0, 1) := by decide +kernel
theorem dL_law_1901 : decode cL_law 1901 = .ok (.iload 5, 2) := by decide +kernel
theorem dL_law_1903 : decode cL_law 1903 = .ok (.iconst 1, 1) := by decide +kernel
theorem dL_law_1904 : decode cL_law 1904 = .ok (.iadd, 1) := by decide +kernel
theorem dL_law_1905 : decode cL_law 1905 = .ok (.iaload, 1) := by decide +kernel
theorem dL_law_1906 : decode cL_law 1906 = .ok (.invokevirtual 320, 3) := by decide +kernel
theorem dL_law_1909 : decode cL_law 1909 = .ok (.istore 7, 2) := by decide +kernel
theorem dL_law_1911 : decode cL_law 1911 = .ok (.aload_n 2, 1) := by decide +kernel
theorem dL_law_1912 : decode cL_law 1912 = .ok (.invokevirtual 215, 3) := by decide +kernel
theorem dL_law_1915 : decode cL_law 1915 = .ok (.iload 6, 2) := by decide +kernel
theorem dL_law_1917 : decode cL_law 1917 = .ok (.if_icmp .eq 5, 3) := by decide +kernel
theorem dL_law_1920 : decode cL_law 1920 = .ok (.iconst 0, 1) := by decide +kernel
theorem dL_law_1921 : decode cL_law 1921 = .ok (.ireturn, 1) := by decide +kernel
theorem dL_law_1922 : decode cL_law 1922 = .ok (.iload 6, 2) := by decide +kernel
theorem dL_law_1924 : decode cL_law 1924 = .ok (.ifCond .ne 15, 3) := by decide +kernel
theorem dL_law_1927 : decode cL_law 1927 = .ok (.aload_n 3, 1) := by decide +kernel
theorem dL_law_1928 : decode cL_law 1928 = .ok (.iconst 0, 1) := by decide +kernel
theorem dL_law_1929 : decode cL_law 1929 = .ok (.laload, 1) := by decide +kernel
theorem dL_law_1930 : decode cL_law 1930 = .ok (.iload 7, 2) := by decide +kernel
theorem dL_law_1932 : decode cL_law 1932 = .ok (.i2l, 1) := by decide +kernel
theorem dL_law_1933 : decode cL_law 1933 = .ok (.lcmp, 1) := by decide +kernel
theorem dL_law_1934 : decode cL_law 1934 = .ok (.ifCond .eq 5, 3) := by decide +kernel
theorem dL_law_1937 : decode cL_law 1937 = .ok (.iconst 0, 1) := by decide +kernel
theorem dL_law_1938 : decode cL_law 1938 = .ok (.ireturn, 1) := by decide +kernel
theorem dL_law_1939 : decode cL_law 1939 = .ok (.goto 1585, 3) := by decide +kernel
theorem dL_law_1942 : decode cL_law 1942 = .ok (.aload_n 1, 1) := by decide +kernel
theorem dL_law_1943 : decode cL_law 1943 = .ok (.aload_n 3, 1) := by decide +kernel
theorem dL_law_1944 : decode cL_law 1944 = .ok (.invokestatic 321, 3) := by decide +kernel
theorem dL_law_1947 : decode cL_law 1947 = .ok (.istore 6, 2) := by decide +kernel
theorem dL_law_1949 : decode cL_law 1949 = .ok (.aload_n 2, 1) := by decide +kernel
theorem dL_law_1950 : decode cL_law 1950 = .ok (.invokevirtual 323, 3) := by decide +kernel
theorem dL_law_1953 : decode cL_law 1953 = .ok (.istore 7, 2) := by decide +kernel
theorem dL_law_1955 : decode cL_law 1955 = .ok (.aload_n 2, 1) := by decide +kernel
theorem dL_law_1956 : decode cL_law 1956 = .ok (.invokevirtual 215, 3) := by decide +kernel
theorem dL_law_1959 : decode cL_law 1959 = .ok (.iload 6, 2) := by decide +kernel
theorem dL_law_1961 : decode cL_law 1961 = .ok (.if_icmp .eq 5, 3) := by decide +kernel
theorem dL_law_1964 : decode cL_law 1964 = .ok (.iconst 0, 1) := by decide +kernel
theorem dL_law_1965 : decode cL_law 1965 = .ok (.ireturn, 1) := by decide +kernel
theorem dL_law_1966 : decode cL_law 1966 = .ok (.iload 6, 2) := by decide +kernel
theorem dL_law_1968 : decode cL_law 1968 = .ok (.ifCond .ne 15, 3) := by decide +kernel
theorem dL_law_1971 : decode cL_law 1971 = .ok (.aload_n 3, 1) := by decide +kernel
theorem dL_law_1972 : decode cL_law 1972 = .ok (.iconst 0, 1) := by decide +kernel
theorem dL_law_1973 : decode cL_law 1973 = .ok (.laload, 1) := by decide +kernel
theorem dL_law_1974 : decode cL_law 1974 = .ok (.iload 7, 2) := by decide +kernel
theorem dL_law_1976 : decode cL_law 1976 = .ok (.i2l, 1) := by decide +kernel
theorem dL_law_1977 : decode cL_law 1977 = .ok (.lcmp, 1) := by decide +kernel
theorem dL_law_1978 : decode cL_law 1978 = .ok (.ifCond .eq 5, 3) := by decide +kernel
theorem dL_law_1981 : decode cL_law 1981 = .ok (.iconst 0, 1) := by decide +kernel
theorem dL_law_1982 : decode cL_law 1982 = .ok (.ireturn, 1) := by decide +kernel
theorem dL_law_1983 : decode cL_law 1983 = .ok (.goto 1541, 3) := by decide +kernel
theorem dL_law_1986 : decode cL_law 1986 = .ok (.aload_n 1, 1) := by decide +kernel
theorem dL_law_1987 : decode cL_law 1987 = .ok (.aload_n 3, 1) := by decide +kernel
theorem dL_law_1988 : decode cL_law 1988 = .ok (.invokestatic 324, 3) := by decide +kernel
theorem dL_law_1991 : decode cL_law 1991 = .ok (.istore 6, 2) := by decide +kernel
theorem dL_law_1993 : decode cL_law 1993 = .ok (.aload_n 2, 1) := by decide +kernel
theorem dL_law_1994 : decode cL_law 1994 = .ok (.invokevirtual 326, 3) := by decide +kernel
theorem dL_law_1997 : decode cL_law 1997 = .ok (.istore 7, 2) := by decide +kernel
theorem dL_law_1999 : decode cL_law 1999 = .ok (.aload_n 2, 1) := by decide +kernel
theorem dL_law_2000 : decode cL_law 2000 = .ok (.invokevirtual 215, 3) := by decide +kernel
theorem dL_law_2003 : decode cL_law 2003 = .ok (.iload 6, 2) := by decide +kernel
theorem dL_law_2005 : decode cL_law 2005 = .ok (.if_icmp .eq 5, 3) := by decide +kernel
theorem dL_law_2008 : decode cL_law 2008 = .ok (.iconst 0, 1) := by decide +kernel
theorem dL_law_2009 : decode cL_law 2009 = .ok (.ireturn, 1) := by decide +kernel
theorem dL_law_2010 : decode cL_law 2010 = .ok (.iload 6, 2) := by decide +kernel
theorem dL_law_2012 : decode cL_law 2012 = .ok (.ifCond .ne 15, 3) := by decide +kernel
theorem dL_law_2015 : decode cL_law 2015 = .ok (.aload_n 3, 1) := by decide +kernel
theorem dL_law_2016 : decode cL_law 2016 = .ok (.iconst 0, 1) := by decide +kernel
theorem dL_law_2017 : decode cL_law 2017 = .ok (.laload, 1) := by decide +kernel
theorem dL_law_2018 : decode cL_law 2018 = .ok (.iload 7, 2) := by decide +kernel
theorem dL_law_2020 : decode cL_law 2020 = .ok (.i2l, 1) := by decide +kernel
theorem dL_law_2021 : decode cL_law 2021 = .ok (.lcmp, 1) := by decide +kernel
theorem dL_law_2022 : decode cL_law 2022 = .ok (.ifCond .eq 5, 3) := by decide +kernel
theorem dL_law_2025 : decode cL_law 2025 = .ok (.iconst 0, 1) := by decide +kernel
theorem dL_law_2026 : decode cL_law 2026 = .ok (.ireturn, 1) := by decide +kernel
theorem dL_law_2027 : decode cL_law 2027 = .ok (.goto 1497, 3) := by decide +kernel
theorem dL_law_2030 : decode cL_law 2030 = .ok (.aload_n 1, 1) := by decide +kernel
theorem dL_law_2031 : decode cL_law 2031 = .ok (.aload_n 0, 1) := by decide +kernel
theorem dL_law_2032 : decode cL_law 2032 = .ok (.iload 5, 2) := by decide +kernel
theorem dL_law_2034 : decode cL_law 2034 = .ok (.iconst 1, 1) := by decide +kernel
theorem dL_law_2035 : decode cL_law 2035 = .ok (.iadd, 1) := by decide +kernel
theorem dL_law_2036 : decode cL_law 2036 = .ok (.iaload, 1) := by decide +kernel
theorem dL_law_2037 : decode cL_law 2037 = .ok (.aload_n 3, 1) := by decide +kernel
theorem dL_law_2038 : decode cL_law 2038 = .ok (.invokestatic 327, 3) := by decide +kernel
theorem dL_law_2041 : decode cL_law 2041 = .ok (.istore 6, 2) := by decide +kernel
theorem dL_law_2043 : decode cL_law 2043 = .ok (.aload_n 2, 1) := by decide +kernel
theorem dL_law_2044 : decode cL_law 2044 = .ok (.aload_n 0, 1) := by decide +kernel
theorem dL_law_2045 : decode cL_law 2045 = .ok (.iload 5, 2) := by decide +kernel
theorem dL_law_2047 : decode cL_law 2047 = .ok (.iconst 1, 1) := by decide +kernel
theorem dL_law_2048 : decode cL_law 2048 = .ok (.iadd, 1) := by decide +kernel
theorem dL_law_2049 : decode cL_law 2049 = .ok (.iaload, 1) := by decide +kernel
theorem dL_law_2050 : decode cL_law 2050 = .ok (.invokevirtual 329, 3) := by decide +kernel
theorem dL_law_2053 : decode cL_law 2053 = .ok (.istore 7, 2) := by decide +kernel
theorem dL_law_2055 : decode cL_law 2055 = .ok (.aload_n 2, 1) := by decide +kernel
theorem dL_law_2056 : decode cL_law 2056 = .ok (.invokevirtual 215, 3) := by decide +kernel
theorem dL_law_2059 : decode cL_law 2059 = .ok (.iload 6, 2) := by decide +kernel
theorem dL_law_2061 : decode cL_law 2061 = .ok (.if_icmp .eq 5, 3) := by decide +kernel
theorem dL_law_2064 : decode cL_law 2064 = .ok (.iconst 0, 1) := by decide +kernel
theorem dL_law_2065 : decode cL_law 2065 = .ok (.ireturn, 1) := by decide +kernel
theorem dL_law_2066 : decode cL_law 2066 = .ok (.iload 6, 2) := by decide +kernel
theorem dL_law_2068 : decode cL_law 2068 = .ok (.ifCond .ne 15, 3) := by decide +kernel
theorem dL_law_2071 : decode cL_law 2071 = .ok (.aload_n 3, 1) := by decide +kernel
theorem dL_law_2072 : decode cL_law 2072 = .ok (.iconst 0, 1) := by decide +kernel
theorem dL_law_2073 : decode cL_law 2073 = .ok (.laload, 1) := by decide +kernel
theorem dL_law_2074 : decode cL_law 2074 = .ok (.iload 7, 2) := by decide +kernel
theorem dL_law_2076 : decode cL_law 2076 = .ok (.i2l, 1) := by decide +kernel
theorem dL_law_2077 : decode cL_law 2077 = .ok (.lcmp, 1) := by decide +kernel
theorem dL_law_2078 : decode cL_law 2078 = .ok (.ifCond .eq 5, 3) := by decide +kernel
theorem dL_law_2081 : decode cL_law 2081 = .ok (.iconst 0, 1) := by decide +kernel
theorem dL_law_2082 : decode cL_law 2082 = .ok (.ireturn, 1) := by decide +kernel
theorem dL_law_2083 : decode cL_law 2083 = .ok (.goto 1441, 3) := by decide +kernel
theorem dL_law_2086 : decode cL_law 2086 = .ok (.aload_n 1, 1) := by decide +kernel
theorem dL_law_2087 : decode cL_law 2087 = .ok (.aload_n 0, 1) := by decide +kernel
theorem dL_law_2088 : decode cL_law 2088 = .ok (.iload 5, 2) := by decide +kernel
theorem dL_law_2090 : decode cL_law 2090 = .ok (.iconst 1, 1) := by decide +kernel
theorem dL_law_2091 : decode cL_law 2091 = .ok (.iadd, 1) := by decide +kernel
theorem dL_law_2092 : decode cL_law 2092 = .ok (.iaload, 1) := by decide +kernel
theorem dL_law_2093 : decode cL_law 2093 = .ok (.aload_n 3, 1) := by decide +kernel
theorem dL_law_2094 : decode cL_law 2094 = .ok (.invokestatic 330, 3) := by decide +kernel
theorem dL_law_2097 : decode cL_law 2097 = .ok (.istore 6, 2) := by decide +kernel
theorem dL_law_2099 : decode cL_law 2099 = .ok (.aload_n 2, 1) := by decide +kernel
theorem dL_law_2100 : decode cL_law 2100 = .ok (.aload_n 0, 1) := by decide +kernel
theorem dL_law_2101 : decode cL_law 2101 = .ok (.iload 5, 2) := by decide +kernel
theorem dL_law_2103 : decode cL_law 2103 = .ok (.iconst 1, 1) := by decide +kernel
theorem dL_law_2104 : decode cL_law 2104 = .ok (.iadd, 1) := by decide +kernel
theorem dL_law_2105 : decode cL_law 2105 = .ok (.iaload, 1) := by decide +kernel
theorem dL_law_2106 : decode cL_law 2106 = .ok (.invokevirtual 332, 3) := by decide +kernel
theorem dL_law_2109 : decode cL_law 2109 = .ok (.istore 7, 2) := by decide +kernel
theorem dL_law_2111 : decode cL_law 2111 = .ok (.aload_n 2, 1) := by decide +kernel
theorem dL_law_2112 : decode cL_law 2112 = .ok (.invokevirtual 215, 3) := by decide +kernel
theorem dL_law_2115 : decode cL_law 2115 = .ok (.iload 6, 2) := by decide +kernel
theorem dL_law_2117 : decode cL_law 2117 = .ok (.if_icmp .eq 5, 3) := by decide +kernel
theorem dL_law_2120 : decode cL_law 2120 = .ok (.iconst 0, 1) := by decide +kernel
theorem dL_law_2121 : decode cL_law 2121 = .ok (.ireturn, 1) := by decide +kernel
theorem dL_law_2122 : decode cL_law 2122 = .ok (.iload 6, 2) := by decide +kernel
theorem dL_law_2124 : decode cL_law 2124 = .ok (.ifCond .ne 15, 3) := by decide +kernel
theorem dL_law_2127 : decode cL_law 2127 = .ok (.aload_n 3, 1) := by decide +kernel
theorem dL_law_2128 : decode cL_law 2128 = .ok (.iconst 0, 1) := by decide +kernel
theorem dL_law_2129 : decode cL_law 2129 = .ok (.laload, 1) := by decide +kernel
theorem dL_law_2130 : decode cL_law 2130 = .ok (.iload 7, 2) := by decide +kernel
theorem dL_law_2132 : decode cL_law 2132 = .ok (.i2l, 1) := by decide +kernel
theorem dL_law_2133 : decode cL_law 2133 = .ok (.lcmp, 1) := by decide +kernel
theorem dL_law_2134 : decode cL_law 2134 = .ok (.ifCond .eq 5, 3) := by decide +kernel
theorem dL_law_2137 : decode cL_law 2137 = .ok (.iconst 0, 1) := by decide +kernel
theorem dL_law_2138 : decode cL_law 2138 = .ok (.ireturn, 1) := by decide +kernel
theorem dL_law_2139 : decode cL_law 2139 = .ok (.goto 1385, 3) := by decide +kernel
theorem dL_law_2142 : decode cL_law 2142 = .ok (.aload_n 1, 1) := by decide +kernel
theorem dL_law_2143 : decode cL_law 2143 = .ok (.aload_n 0, 1) := by decide +kernel
theorem dL_law_2144 : decode cL_law 2144 = .ok (.iload 5, 2) := by decide +kernel
theorem dL_law_2146 : decode cL_law 2146 = .ok (.iconst 1, 1) := by decide +kernel
theorem dL_law_2147 : decode cL_law 2147 = .ok (.iadd, 1) := by decide +kernel
theorem dL_law_2148 : decode cL_law 2148 = .ok (.iaload, 1) := by decide +kernel
theorem dL_law_2149 : decode cL_law 2149 = .ok (.aload_n 3, 1) := by decide +kernel
theorem dL_law_2150 : decode cL_law 2150 = .ok (.invokestatic 333, 3) := by decide +kernel
theorem dL_law_2153 : decode cL_law 2153 = .ok (.istore 6, 2) := by decide +kernel
theorem dL_law_2155 : decode cL_law 2155 = .ok (.aload_n 2, 1) := by decide +kernel
theorem dL_law_2156 : decode cL_law 2156 = .ok (.aload_n 0, 1) := by decide +kernel
theorem dL_law_2157 : decode cL_law 2157 = .ok (.iload 5, 2) := by decide +kernel
theorem dL_law_2159 : decode cL_law 2159 = .ok (.iconst 1, 1) := by decide +kernel
theorem dL_law_2160 : decode cL_law 2160 = .ok (.iadd, 1) := by decide +kernel
theorem dL_law_2161 : decode cL_law 2161 = .ok (.iaload, 1) := by decide +kernel
theorem dL_law_2162 : decode cL_law 2162 = .ok (.invokevirtual 335, 3) := by decide +kernel
theorem dL_law_2165 : decode cL_law 2165 = .ok (.istore 7, 2) := by decide +kernel
theorem dL_law_2167 : decode cL_law 2167 = .ok (.aload_n 2, 1) := by decide +kernel
theorem dL_law_2168 : decode cL_law 2168 = .ok (.invokevirtual 215, 3) := by decide +kernel
theorem dL_law_2171 : decode cL_law 2171 = .ok (.iload 6, 2) := by decide +kernel
theorem dL_law_2173 : decode cL_law 2173 = .ok (.if_icmp .eq 5, 3) := by decide +kernel
theorem dL_law_2176 : decode cL_law 2176 = .ok (.iconst 0, 1) := by decide +kernel
theorem dL_law_2177 : decode cL_law 2177 = .ok (.ireturn, 1) := by decide +kernel
theorem dL_law_2178 : decode cL_law 2178 = .ok (.iload 6, 2) := by decide +kernel
theorem dL_law_2180 : decode cL_law 2180 = .ok (.ifCond .ne 15, 3) := by decide +kernel
theorem dL_law_2183 : decode cL_law 2183 = .ok (.aload_n 3, 1) := by decide +kernel
theorem dL_law_2184 : decode cL_law 2184 = .ok (.iconst 0, 1) := by decide +kernel
theorem dL_law_2185 : decode cL_law 2185 = .ok (.laload, 1) := by decide +kernel
theorem dL_law_2186 : decode cL_law 2186 = .ok (.iload 7, 2) := by decide +kernel
theorem dL_law_2188 : decode cL_law 2188 = .ok (.i2l, 1) := by decide +kernel
theorem dL_law_2189 : decode cL_law 2189 = .ok (.lcmp, 1) := by decide +kernel
theorem dL_law_2190 : decode cL_law 2190 = .ok (.ifCond .eq 5, 3) := by decide +kernel
theorem dL_law_2193 : decode cL_law 2193 = .ok (.iconst 0, 1) := by decide +kernel
theorem dL_law_2194 : decode cL_law 2194 = .ok (.ireturn, 1) := by decide +kernel
theorem dL_law_2195 : decode cL_law 2195 = .ok (.goto 1329, 3) := by decide +kernel
theorem dL_law_2198 : decode cL_law 2198 = .ok (.aload_n 1, 1) := by decide +kernel
theorem dL_law_2199 : decode cL_law 2199 = .ok (.aload_n 3, 1) := by decide +kernel
theorem dL_law_2200 : decode cL_law 2200 = .ok (.invokestatic 336, 3) := by decide +kernel
theorem dL_law_2203 : decode cL_law 2203 = .ok (.istore 6, 2) := by decide +kernel
theorem dL_law_2205 : decode cL_law 2205 = .ok (.aload_n 2, 1) := by decide +kernel
theorem dL_law_2206 : decode cL_law 2206 = .ok (.invokevirtual 338, 3) := by decide +kernel
theorem dL_law_2209 : decode cL_law 2209 = .ok (.istore 7, 2) := by decide +kernel
theorem dL_law_2211 : decode cL_law 2211 = .ok (.aload_n 2, 1) := by decide +kernel
theorem dL_law_2212 : decode cL_law 2212 = .ok (.invokevirtual 215, 3) := by decide +kernel
theorem dL_law_2215 : decode cL_law 2215 = .ok (.iload 6, 2) := by decide +kernel
theorem dL_law_2217 : decode cL_law 2217 = .ok (.if_icmp .eq 5, 3) := by decide +kernel
theorem dL_law_2220 : decode cL_law 2220 = .ok (.iconst 0, 1) := by decide +kernel
theorem dL_law_2221 : decode cL_law 2221 = .ok (.ireturn, 1) := by decide +kernel
theorem dL_law_2222 : decode cL_law 2222 = .ok (.iload 6, 2) := by decide +kernel
theorem dL_law_2224 : decode cL_law 2224 = .ok (.ifCond .ne 15, 3) := by decide +kernel
theorem dL_law_2227 : decode cL_law 2227 = .ok (.aload_n 3, 1) := by decide +kernel
theorem dL_law_2228 : decode cL_law 2228 = .ok (.iconst 0, 1) := by decide +kernel
theorem dL_law_2229 : decode cL_law 2229 = .ok (.laload, 1) := by decide +kernel
theorem dL_law_2230 : decode cL_law 2230 = .ok (.iload 7, 2) := by decide +kernel
theorem dL_law_2232 : decode cL_law 2232 = .ok (.i2l, 1) := by decide +kernel
theorem dL_law_2233 : decode cL_law 2233 = .ok (.lcmp, 1) := by decide +kernel
theorem dL_law_2234 : decode cL_law 2234 = .ok (.ifCond .eq 5, 3) := by decide +kernel
theorem dL_law_2237 : decode cL_law 2237 = .ok (.iconst 0, 1) := by decide +kernel
theorem dL_law_2238 : decode cL_law 2238 = .ok (.ireturn, 1) := by decide +kernel
theorem dL_law_2239 : decode cL_law 2239 = .ok (.goto 1285, 3) := by decide +kernel
theorem dL_law_2242 : decode cL_law 2242 = .ok (.aload_n 1, 1) := by decide +kernel
theorem dL_law_2243 : decode cL_law 2243 = .ok (.aload 4, 2) := by decide +kernel
theorem dL_law_2245 : decode cL_law 2245 = .ok (.invokestatic 339, 3) := by decide +kernel
theorem dL_law_2248 : decode cL_law 2248 = .ok (.istore 6, 2) := by decide +kernel
theorem dL_law_2250 : decode cL_law 2250 = .ok (.aload_n 2, 1) := by decide +kernel
theorem dL_law_2251 : decode cL_law 2251 = .ok (.invokevirtual 342, 3) := by decide +kernel
theorem dL_law_2254 : decode cL_law 2254 = .ok (.dstore 7, 2) := by decide +kernel
theorem dL_law_2256 : decode cL_law 2256 = .ok (.aload_n 2, 1) := by decide +kernel
theorem dL_law_2257 : decode cL_law 2257 = .ok (.invokevirtual 215, 3) := by decide +kernel
theorem dL_law_2260 : decode cL_law 2260 = .ok (.iload 6, 2) := by decide +kernel
theorem dL_law_2262 : decode cL_law 2262 = .ok (.if_icmp .eq 5, 3) := by decide +kernel
theorem dL_law_2265 : decode cL_law 2265 = .ok (.iconst 0, 1) := by decide +kernel
theorem dL_law_2266 : decode cL_law 2266 = .ok (.ireturn, 1) := by decide +kernel
theorem dL_law_2267 : decode cL_law 2267 = .ok (.iload 6, 2) := by decide +kernel
theorem dL_law_2269 : decode cL_law 2269 = .ok (.ifCond .ne 35, 3) := by decide +kernel
theorem dL_law_2272 : decode cL_law 2272 = .ok (.aload 4, 2) := by decide +kernel
theorem dL_law_2274 : decode cL_law 2274 = .ok (.iconst 0, 1) := by decide +kernel
theorem dL_law_2275 : decode cL_law 2275 = .ok (.daload, 1) := by decide +kernel
theorem dL_law_2276 : decode cL_law 2276 = .ok (.dload 7, 2) := by decide +kernel
theorem dL_law_2278 : decode cL_law 2278 = .ok (.dcmp .l, 1) := by decide +kernel
theorem dL_law_2279 : decode cL_law 2279 = .ok (.ifCond .eq 25, 3) := by decide +kernel
theorem dL_law_2282 : decode cL_law 2282 = .ok (.aload 4, 2) := by decide +kernel
theorem dL_law_2284 : decode cL_law 2284 = .ok (.iconst 0, 1) := by decide +kernel
theorem dL_law_2285 : decode cL_law 2285 = .ok (.daload, 1) := by decide +kernel
theorem dL_law_2286 : decode cL_law 2286 = .ok (.aload 4, 2) := by decide +kernel
theorem dL_law_2288 : decode cL_law 2288 = .ok (.iconst 0, 1) := by decide +kernel
theorem dL_law_2289 : decode cL_law 2289 = .ok (.daload, 1) := by decide +kernel
theorem dL_law_2290 : decode cL_law 2290 = .ok (.dcmp .l, 1) := by decide +kernel
theorem dL_law_2291 : decode cL_law 2291 = .ok (.ifCond .eq 11, 3) := by decide +kernel
theorem dL_law_2294 : decode cL_law 2294 = .ok (.dload 7, 2) := by decide +kernel
theorem dL_law_2296 : decode cL_law 2296 = .ok (.dload 7, 2) := by decide +kernel
theorem dL_law_2298 : decode cL_law 2298 = .ok (.dcmp .l, 1) := by decide +kernel
theorem dL_law_2299 : decode cL_law 2299 = .ok (.ifCond .ne 5, 3) := by decide +kernel
theorem dL_law_2302 : decode cL_law 2302 = .ok (.iconst 0, 1) := by decide +kernel
theorem dL_law_2303 : decode cL_law 2303 = .ok (.ireturn, 1) := by decide +kernel
theorem dL_law_2304 : decode cL_law 2304 = .ok (.goto 1220, 3) := by decide +kernel
theorem dL_law_2307 : decode cL_law 2307 = .ok (.aload_n 1, 1) := by decide +kernel
theorem dL_law_2308 : decode cL_law 2308 = .ok (.aload 4, 2) := by decide +kernel
theorem dL_law_2310 : decode cL_law 2310 = .ok (.invokestatic 343, 3) := by decide +kernel
theorem dL_law_2313 : decode cL_law 2313 = .ok (.istore 6, 2) := by decide +kernel
theorem dL_law_2315 : decode cL_law 2315 = .ok (.aload_n 2, 1) := by decide +kernel
theorem dL_law_2316 : decode cL_law 2316 = .ok (.invokevirtual 345, 3) := by decide +kernel
theorem dL_law_2319 : decode cL_law 2319 = .ok (.fstore 7, 2) := by decide +kernel
theorem dL_law_2321 : decode cL_law 2321 = .ok (.aload_n 2, 1) := by decide +kernel
theorem dL_law_2322 : decode cL_law 2322 = .ok (.invokevirtual 215, 3) := by decide +kernel
theorem dL_law_2325 : decode cL_law 2325 = .ok (.iload 6, 2) := by decide +kernel
theorem dL_law_2327 : decode cL_law 2327 = .ok (.if_icmp .eq 5, 3) := by decide +kernel
theorem dL_law_2330 : decode cL_law 2330 = .ok (.iconst 0, 1) := by decide +kernel
theorem dL_law_2331 : decode cL_law 2331 = .ok (.ireturn, 1) := by decide +kernel
theorem dL_law_2332 : decode cL_law 2332 = .ok (.iload 6, 2) := by decide +kernel
theorem dL_law_2334 : decode cL_law 2334 = .ok (.ifCond .ne 36, 3) := by decide +kernel
theorem dL_law_2337 : decode cL_law 2337 = .ok (.aload 4, 2) := by decide +kernel
theorem dL_law_2339 : decode cL_law 2339 = .ok (.iconst 0, 1) := by decide +kernel
theorem dL_law_2340 : decode cL_law 2340 = .ok (.daload, 1) := by decide +kernel
theorem dL_law_2341 : decode cL_law 2341 = .ok (.fload 7, 2) := by decide +kernel
theorem dL_law_2343 : decode cL_law 2343 = .ok (.f2d, 1) := by decide +kernel
theorem dL_law_2344 : decode cL_law 2344 = .ok (.dcmp .l, 1) := by decide +kernel
theorem dL_law_2345 : decode cL_law 2345 = .ok (.ifCond .eq 25, 3) := by decide +kernel
theorem dL_law_2348 : decode cL_law 2348 = .ok (.aload 4, 2) := by decide +kernel
theorem dL_law_2350 : decode cL_law 2350 = .ok (.iconst 0, 1) := by decide +kernel
theorem dL_law_2351 : decode cL_law 2351 = .ok (.daload, 1) := by decide +kernel
theorem dL_law_2352 : decode cL_law 2352 = .ok (.aload 4, 2) := by decide +kernel
theorem dL_law_2354 : decode cL_law 2354 = .ok (.iconst 0, 1) := by decide +kernel
theorem dL_law_2355 : decode cL_law 2355 = .ok (.daload, 1) := by decide +kernel
theorem dL_law_2356 : decode cL_law 2356 = .ok (.dcmp .l, 1) := by decide +kernel
theorem dL_law_2357 : decode cL_law 2357 = .ok (.ifCond .eq 11, 3) := by decide +kernel
theorem dL_law_2360 : decode cL_law 2360 = .ok (.fload 7, 2) := by decide +kernel
theorem dL_law_2362 : decode cL_law 2362 = .ok (.fload 7, 2) := by decide +kernel
theorem dL_law_2364 : decode cL_law 2364 = .ok (.fcmp .l, 1) := by decide +kernel
theorem dL_law_2365 : decode cL_law 2365 = .ok (.ifCond .ne 5, 3) := by decide +kernel
theorem dL_law_2368 : decode cL_law 2368 = .ok (.iconst 0, 1) := by decide +kernel
theorem dL_law_2369 : decode cL_law 2369 = .ok (.ireturn, 1) := by decide +kernel
theorem dL_law_2370 : decode cL_law 2370 = .ok (.goto 1154, 3) := by decide +kernel
theorem dL_law_2373 : decode cL_law 2373 = .ok (.aload_n 1, 1) := by decide +kernel
theorem dL_law_2374 : decode cL_law 2374 = .ok (.aload_n 0, 1) := by decide +kernel
theorem dL_law_2375 : decode cL_law 2375 = .ok (.iload 5, 2) := by decide +kernel
theorem dL_law_2377 : decode cL_law 2377 = .ok (.iconst 1, 1) := by decide +kernel
theorem dL_law_2378 : decode cL_law 2378 = .ok (.iadd, 1) := by decide +kernel
theorem dL_law_2379 : decode cL_law 2379 = .ok (.iaload, 1) := by decide +kernel
theorem dL_law_2380 : decode cL_law 2380 = .ok (.aload_n 3, 1) := by decide +kernel
theorem dL_law_2381 : decode cL_law 2381 = .ok (.invokestatic 346, 3) := by decide +kernel
theorem dL_law_2384 : decode cL_law 2384 = .ok (.istore 6, 2) := by decide +kernel
theorem dL_law_2386 : decode cL_law 2386 = .ok (.aload_n 2, 1) := by decide +kernel
theorem dL_law_2387 : decode cL_law 2387 = .ok (.aload_n 0, 1) := by decide +kernel
theorem dL_law_2388 : decode cL_law 2388 = .ok (.iload 5, 2) := by decide +kernel
theorem dL_law_2390 : decode cL_law 2390 = .ok (.iconst 1, 1) := by decide +kernel
theorem dL_law_2391 : decode cL_law 2391 = .ok (.iadd, 1) := by decide +kernel
theorem dL_law_2392 : decode cL_law 2392 = .ok (.iaload, 1) := by decide +kernel
theorem dL_law_2393 : decode cL_law 2393 = .ok (.invokevirtual 348, 3) := by decide +kernel
theorem dL_law_2396 : decode cL_law 2396 = .ok (.istore 7, 2) := by decide +kernel
theorem dL_law_2398 : decode cL_law 2398 = .ok (.aload_n 2, 1) := by decide +kernel
theorem dL_law_2399 : decode cL_law 2399 = .ok (.invokevirtual 215, 3) := by decide +kernel
theorem dL_law_2402 : decode cL_law 2402 = .ok (.iload 6, 2) := by decide +kernel
theorem dL_law_2404 : decode cL_law 2404 = .ok (.if_icmp .eq 5, 3) := by decide +kernel
theorem dL_law_2407 : decode cL_law 2407 = .ok (.iconst 0, 1) := by decide +kernel
theorem dL_law_2408 : decode cL_law 2408 = .ok (.ireturn, 1) := by decide +kernel
theorem dL_law_2409 : decode cL_law 2409 = .ok (.iload 6, 2) := by decide +kernel
theorem dL_law_2411 : decode cL_law 2411 = .ok (.ifCond .ne 15, 3) := by decide +kernel
theorem dL_law_2414 : decode cL_law 2414 = .ok (.aload_n 3, 1) := by decide +kernel
theorem dL_law_2415 : decode cL_law 2415 = .ok (.iconst 0, 1) := by decide +kernel
theorem dL_law_2416 : decode cL_law 2416 = .ok (.laload, 1) := by decide +kernel
theorem dL_law_2417 : decode cL_law 2417 = .ok (.iload 7, 2) := by decide +kernel
theorem dL_law_2419 : decode cL_law 2419 = .ok (.i2l, 1) := by decide +kernel
theorem dL_law_2420 : decode cL_law 2420 = .ok (.lcmp, 1) := by decide +kernel
theorem dL_law_2421 : decode cL_law 2421 = .ok (.ifCond .eq 5, 3) := by decide +kernel
theorem dL_law_2424 : decode cL_law 2424 = .ok (.iconst 0, 1) := by decide +kernel
theorem dL_law_2425 : decode cL_law 2425 = .ok (.ireturn, 1) := by decide +kernel
theorem dL_law_2426 : decode cL_law 2426 = .ok (.goto 1098, 3) := by decide +kernel
theorem dL_law_2429 : decode cL_law 2429 = .ok (.aload_n 1, 1) := by decide +kernel
theorem dL_law_2430 : decode cL_law 2430 = .ok (.aload_n 0, 1) := by decide +kernel
theorem dL_law_2431 : decode cL_law 2431 = .ok (.iload 5, 2) := by decide +kernel
theorem dL_law_2433 : decode cL_law 2433 = .ok (.iconst 1, 1) := by decide +kernel
theorem dL_law_2434 : decode cL_law 2434 = .ok (.iadd, 1) := by decide +kernel
theorem dL_law_2435 : decode cL_law 2435 = .ok (.iaload, 1) := by decide +kernel
theorem dL_law_2436 : decode cL_law 2436 = .ok (.aload_n 3, 1) := by decide +kernel
theorem dL_law_2437 : decode cL_law 2437 = .ok (.invokestatic 349, 3) := by decide +kernel
theorem dL_law_2440 : decode cL_law 2440 = .ok (.istore 6, 2) := by decide +kernel
theorem dL_law_2442 : decode cL_law 2442 = .ok (.aload_n 2, 1) := by decide +kernel
theorem dL_law_2443 : decode cL_law 2443 = .ok (.aload_n 0, 1) := by decide +kernel
theorem dL_law_2444 : decode cL_law 2444 = .ok (.iload 5, 2) := by decide +kernel
theorem dL_law_2446 : decode cL_law 2446 = .ok (.iconst 1, 1) := by decide +kernel
theorem dL_law_2447 : decode cL_law 2447 = .ok (.iadd, 1) := by decide +kernel
theorem dL_law_2448 : decode cL_law 2448 = .ok (.iaload, 1) := by decide +kernel
theorem dL_law_2449 : decode cL_law 2449 = .ok (.invokevirtual 351, 3) := by decide +kernel
theorem dL_law_2452 : decode cL_law 2452 = .ok (.istore 7, 2) := by decide +kernel
theorem dL_law_2454 : decode cL_law 2454 = .ok (.aload_n 2, 1) := by decide +kernel
theorem dL_law_2455 : decode cL_law 2455 = .ok (.invokevirtual 215, 3) := by decide +kernel
theorem dL_law_2458 : decode cL_law 2458 = .ok (.iload 6, 2) := by decide +kernel
theorem dL_law_2460 : decode cL_law 2460 = .ok (.if_icmp .eq 5, 3) := by decide +kernel
theorem dL_law_2463 : decode cL_law 2463 = .ok (.iconst 0, 1) := by decide +kernel
theorem dL_law_2464 : decode cL_law 2464 = .ok (.ireturn, 1) := by decide +kernel
theorem dL_law_2465 : decode cL_law 2465 = .ok (.iload 6, 2) := by decide +kernel
theorem dL_law_2467 : decode cL_law 2467 = .ok (.ifCond .ne 15, 3) := by decide +kernel
theorem dL_law_2470 : decode cL_law 2470 = .ok (.aload_n 3, 1) := by decide +kernel
theorem dL_law_2471 : decode cL_law 2471 = .ok (.iconst 0, 1) := by decide +kernel
theorem dL_law_2472 : decode cL_law 2472 = .ok (.laload, 1) := by decide +kernel
theorem dL_law_2473 : decode cL_law 2473 = .ok (.iload 7, 2) := by decide +kernel
theorem dL_law_2475 : decode cL_law 2475 = .ok (.i2l, 1) := by decide +kernel
theorem dL_law_2476 : decode cL_law 2476 = .ok (.lcmp, 1) := by decide +kernel
theorem dL_law_2477 : decode cL_law 2477 = .ok (.ifCond .eq 5, 3) := by decide +kernel
theorem dL_law_2480 : decode cL_law 2480 = .ok (.iconst 0, 1) := by decide +kernel
theorem dL_law_2481 : decode cL_law 2481 = .ok (.ireturn, 1) := by decide +kernel
theorem dL_law_2482 : decode cL_law 2482 = .ok (.goto 1042, 3) := by decide +kernel
theorem dL_law_2485 : decode cL_law 2485 = .ok (.aload_n 1, 1) := by decide +kernel
theorem dL_law_2486 : decode cL_law 2486 = .ok (.aload_n 0, 1) := by decide +kernel
theorem dL_law_2487 : decode cL_law 2487 = .ok (.iload 5, 2) := by decide +kernel
theorem dL_law_2489 : decode cL_law 2489 = .ok (.iconst 1, 1) := by decide +kernel
theorem dL_law_2490 : decode cL_law 2490 = .ok (.iadd, 1) := by decide +kernel
theorem dL_law_2491 : decode cL_law 2491 = .ok (.iaload, 1) := by decide +kernel
theorem dL_law_2492 : decode cL_law 2492 = .ok (.aload_n 0, 1) := by decide +kernel
theorem dL_law_2493 : decode cL_law 2493 = .ok (.iload 5, 2) := by decide +kernel
theorem dL_law_2495 : decode cL_law 2495 = .ok (.iconst 2, 1) := by decide +kernel
theorem dL_law_2496 : decode cL_law 2496 = .ok (.iadd, 1) := by decide +kernel
theorem dL_law_2497 : decode cL_law 2497 = .ok (.iaload, 1) := by decide +kernel
theorem dL_law_2498 : decode cL_law 2498 = .ok (.aload_n 3, 1) := by decide +kernel
theorem dL_law_2499 : decode cL_law 2499 = .ok (.invokestatic 352, 3) := by decide +kernel
theorem dL_law_2502 : decode cL_law 2502 = .ok (.istore 6, 2) := by decide +kernel
theorem dL_law_2504 : decode cL_law 2504 = .ok (.aload_n 2, 1) := by decide +kernel
theorem dL_law_2505 : decode cL_law 2505 = .ok (.aload_n 0, 1) := by decide +kernel
theorem dL_law_2506 : decode cL_law 2506 = .ok (.iload 5, 2) := by decide +kernel
theorem dL_law_2508 : decode cL_law 2508 = .ok (.iconst 1, 1) := by decide +kernel
theorem dL_law_2509 : decode cL_law 2509 = .ok (.iadd, 1) := by decide +kernel
theorem dL_law_2510 : decode cL_law 2510 = .ok (.iaload, 1) := by decide +kernel
theorem dL_law_2511 : decode cL_law 2511 = .ok (.aload_n 0, 1) := by decide +kernel
theorem dL_law_2512 : decode cL_law 2512 = .ok (.iload 5, 2) := by decide +kernel
theorem dL_law_2514 : decode cL_law 2514 = .ok (.iconst 2, 1) := by decide +kernel
theorem dL_law_2515 : decode cL_law 2515 = .ok (.iadd, 1) := by decide +kernel
theorem dL_law_2516 : decode cL_law 2516 = .ok (.iaload, 1) := by decide +kernel
theorem dL_law_2517 : decode cL_law 2517 = .ok (.invokevirtual 355, 3) := by decide +kernel
theorem dL_law_2520 : decode cL_law 2520 = .ok (.istore 7, 2) := by decide +kernel
theorem dL_law_2522 : decode cL_law 2522 = .ok (.aload_n 2, 1) := by decide +kernel
theorem dL_law_2523 : decode cL_law 2523 = .ok (.invokevirtual 215, 3) := by decide +kernel
theorem dL_law_2526 : decode cL_law 2526 = .ok (.iload 6, 2) := by decide +kernel
theorem dL_law_2528 : decode cL_law 2528 = .ok (.if_icmp .eq 5, 3) := by decide +kernel
theorem dL_law_2531 : decode cL_law 2531 = .ok (.iconst 0, 1) := by decide +kernel
theorem dL_law_2532 : decode cL_law 2532 = .ok (.ireturn, 1) := by decide +kernel
theorem dL_law_2533 : decode cL_law 2533 = .ok (.iload 6, 2) := by decide +kernel
theorem dL_law_2535 : decode cL_law 2535 = .ok (.ifCond .ne 15, 3) := by decide +kernel
theorem dL_law_2538 : decode cL_law 2538 = .ok (.aload_n 3, 1) := by decide +kernel
theorem dL_law_2539 : decode cL_law 2539 = .ok (.iconst 0, 1) := by decide +kernel
theorem dL_law_2540 : decode cL_law 2540 = .ok (.laload, 1) := by decide +kernel
theorem dL_law_2541 : decode cL_law 2541 = .ok (.iload 7, 2) := by decide +kernel
theorem dL_law_2543 : decode cL_law 2543 = .ok (.i2l, 1) := by decide +kernel
theorem dL_law_2544 : decode cL_law 2544 = .ok (.lcmp, 1) := by decide +kernel
theorem dL_law_2545 : decode cL_law 2545 = .ok (.ifCond .eq 5, 3) := by decide +kernel
theorem dL_law_2548 : decode cL_law 2548 = .ok (.iconst 0, 1) := by decide +kernel
theorem dL_law_2549 : decode cL_law 2549 = .ok (.ireturn, 1) := by decide +kernel
theorem dL_law_2550 : decode cL_law 2550 = .ok (.goto 974, 3) := by decide +kernel
theorem dL_law_2553 : decode cL_law 2553 = .ok (.aload_n 1, 1) := by decide +kernel
theorem dL_law_2554 : decode cL_law 2554 = .ok (.aload_n 0, 1) := by decide +kernel
theorem dL_law_2555 : decode cL_law 2555 = .ok (.iload 5, 2) := by decide +kernel
theorem dL_law_2557 : decode cL_law 2557 = .ok (.iconst 1, 1) := by decide +kernel
theorem dL_law_2558 : decode cL_law 2558 = .ok (.iadd, 1) := by decide +kernel
theorem dL_law_2559 : decode cL_law 2559 = .ok (.iaload, 1) := by decide +kernel
theorem dL_law_2560 : decode cL_law 2560 = .ok (.aload_n 3, 1) := by decide +kernel
theorem dL_law_2561 : decode cL_law 2561 = .ok (.invokestatic 356, 3) := by decide +kernel
theorem dL_law_2564 : decode cL_law 2564 = .ok (.istore 6, 2) := by decide +kernel
theorem dL_law_2566 : decode cL_law 2566 = .ok (.aload_n 2, 1) := by decide +kernel
theorem dL_law_2567 : decode cL_law 2567 = .ok (.aload_n 0, 1) := by decide +kernel
theorem dL_law_2568 : decode cL_law 2568 = .ok (.iload 5, 2) := by decide +kernel
theorem dL_law_2570 : decode cL_law 2570 = .ok (.iconst 1, 1) := by decide +kernel
theorem dL_law_2571 : decode cL_law 2571 = .ok (.iadd, 1) := by decide +kernel
theorem dL_law_2572 : decode cL_law 2572 = .ok (.iaload, 1) := by decide +kernel
theorem dL_law_2573 : decode cL_law 2573 = .ok (.invokevirtual 358, 3) := by decide +kernel
theorem dL_law_2576 : decode cL_law 2576 = .ok (.istore 7, 2) := by decide +kernel
theorem dL_law_2578 : decode cL_law 2578 = .ok (.aload_n 2, 1) := by decide +kernel
theorem dL_law_2579 : decode cL_law 2579 = .ok (.invokevirtual 215, 3) := by decide +kernel
theorem dL_law_2582 : decode cL_law 2582 = .ok (.iload 6, 2) := by decide +kernel
theorem dL_law_2584 : decode cL_law 2584 = .ok (.if_icmp .eq 5, 3) := by decide +kernel
theorem dL_law_2587 : decode cL_law 2587 = .ok (.iconst 0, 1) := by decide +kernel
theorem dL_law_2588 : decode cL_law 2588 = .ok (.ireturn, 1) := by decide +kernel
theorem dL_law_2589 : decode cL_law 2589 = .ok (.iload 6, 2) := by decide +kernel
theorem dL_law_2591 : decode cL_law 2591 = .ok (.ifCond .ne 15, 3) := by decide +kernel
theorem dL_law_2594 : decode cL_law 2594 = .ok (.aload_n 3, 1) := by decide +kernel
theorem dL_law_2595 : decode cL_law 2595 = .ok (.iconst 0, 1) := by decide +kernel
theorem dL_law_2596 : decode cL_law 2596 = .ok (.laload, 1) := by decide +kernel
theorem dL_law_2597 : decode cL_law 2597 = .ok (.iload 7, 2) := by decide +kernel
theorem dL_law_2599 : decode cL_law 2599 = .ok (.i2l, 1) := by decide +kernel
theorem dL_law_2600 : decode cL_law 2600 = .ok (.lcmp, 1) := by decide +kernel
theorem dL_law_2601 : decode cL_law 2601 = .ok (.ifCond .eq 5, 3) := by decide +kernel
theorem dL_law_2604 : decode cL_law 2604 = .ok (.iconst 0, 1) := by decide +kernel
theorem dL_law_2605 : decode cL_law 2605 = .ok (.ireturn, 1) := by decide +kernel
theorem dL_law_2606 : decode cL_law 2606 = .ok (.goto 918, 3) := by decide +kernel
theorem dL_law_2609 : decode cL_law 2609 = .ok (.aload_n 1, 1) := by decide +kernel
theorem dL_law_2610 : decode cL_law 2610 = .ok (.aload_n 3, 1) := by decide +kernel
theorem dL_law_2611 : decode cL_law 2611 = .ok (.invokestatic 359, 3) := by decide +kernel
theorem dL_law_2614 : decode cL_law 2614 = .ok (.istore 6, 2) := by decide +kernel
theorem dL_law_2616 : decode cL_law 2616 = .ok (.aload_n 2, 1) := by decide +kernel
theorem dL_law_2617 : decode cL_law 2617 = .ok (.invokevirtual 361, 3) := by decide +kernel
theorem dL_law_2620 : decode cL_law 2620 = .ok (.istore 7, 2) := by decide +kernel
theorem dL_law_2622 : decode cL_law 2622 = .ok (.aload_n 2, 1) := by decide +kernel
theorem dL_law_2623 : decode cL_law 2623 = .ok (.invokevirtual 215, 3) := by decide +kernel
theorem dL_law_2626 : decode cL_law 2626 = .ok (.iload 6, 2) := by decide +kernel
theorem dL_law_2628 : decode cL_law 2628 = .ok (.if_icmp .eq 5, 3) := by decide +kernel
theorem dL_law_2631 : decode cL_law 2631 = .ok (.iconst 0, 1) := by decide +kernel
theorem dL_law_2632 : decode cL_law 2632 = .ok (.ireturn, 1) := by decide +kernel
theorem dL_law_2633 : decode cL_law 2633 = .ok (.iload 6, 2) := by decide +kernel
theorem dL_law_2635 : decode cL_law 2635 = .ok (.ifCond .ne 15, 3) := by decide +kernel
theorem dL_law_2638 : decode cL_law 2638 = .ok (.aload_n 3, 1) := by decide +kernel
theorem dL_law_2639 : decode cL_law 2639 = .ok (.iconst 0, 1) := by decide +kernel
theorem dL_law_2640 : decode cL_law 2640 = .ok (.laload, 1) := by decide +kernel
theorem dL_law_2641 : decode cL_law 2641 = .ok (.iload 7, 2) := by decide +kernel
theorem dL_law_2643 : decode cL_law 2643 = .ok (.i2l, 1) := by decide +kernel
theorem dL_law_2644 : decode cL_law 2644 = .ok (.lcmp, 1) := by decide +kernel
theorem dL_law_2645 : decode cL_law 2645 = .ok (.ifCond .eq 5, 3) := by decide +kernel
theorem dL_law_2648 : decode cL_law 2648 = .ok (.iconst 0, 1) := by decide +kernel
theorem dL_law_2649 : decode cL_law 2649 = .ok (.ireturn, 1) := by decide +kernel
theorem dL_law_2650 : decode cL_law 2650 = .ok (.goto 874, 3) := by decide +kernel
theorem dL_law_2653 : decode cL_law 2653 = .ok (.aload_n 1, 1) := by decide +kernel
theorem dL_law_2654 : decode cL_law 2654 = .ok (.aload_n 0, 1) := by decide +kernel
theorem dL_law_2655 : decode cL_law 2655 = .ok (.iload 5, 2) := by decide +kernel
theorem dL_law_2657 : decode cL_law 2657 = .ok (.iconst 1, 1) := by decide +kernel
theorem dL_law_2658 : decode cL_law 2658 = .ok (.iadd, 1) := by decide +kernel
theorem dL_law_2659 : decode cL_law 2659 = .ok (.iaload, 1) := by decide +kernel
theorem dL_law_2660 : decode cL_law 2660 = .ok (.aload_n 0, 1) := by decide +kernel
theorem dL_law_2661 : decode cL_law 2661 = .ok (.iload 5, 2) := by decide +kernel
theorem dL_law_2663 : decode cL_law 2663 = .ok (.iconst 2, 1) := by decide +kernel
theorem dL_law_2664 : decode cL_law 2664 = .ok (.iadd, 1) := by decide +kernel
theorem dL_law_2665 : decode cL_law 2665 = .ok (.iaload, 1) := by decide +kernel
theorem dL_law_2666 : decode cL_law 2666 = .ok (.aload_n 3, 1) := by decide +kernel
theorem dL_law_2667 : decode cL_law 2667 = .ok (.invokestatic 362, 3) := by decide +kernel
theorem dL_law_2670 : decode cL_law 2670 = .ok (.istore 6, 2) := by decide +kernel
theorem dL_law_2672 : decode cL_law 2672 = .ok (.aload_n 2, 1) := by decide +kernel
theorem dL_law_2673 : decode cL_law 2673 = .ok (.aload_n 0, 1) := by decide +kernel
theorem dL_law_2674 : decode cL_law 2674 = .ok (.iload 5, 2) := by decide +kernel
theorem dL_law_2676 : decode cL_law 2676 = .ok (.iconst 1, 1) := by decide +kernel
theorem dL_law_2677 : decode cL_law 2677 = .ok (.iadd, 1) := by decide +kernel
theorem dL_law_2678 : decode cL_law 2678 = .ok (.iaload, 1) := by decide +kernel
theorem dL_law_2679 : decode cL_law 2679 = .ok (.aload_n 0, 1) := by decide +kernel
theorem dL_law_2680 : decode cL_law 2680 = .ok (.iload 5, 2) := by decide +kernel
theorem dL_law_2682 : decode cL_law 2682 = .ok (.iconst 2, 1) := by decide +kernel
theorem dL_law_2683 : decode cL_law 2683 = .ok (.iadd, 1) := by decide +kernel
theorem dL_law_2684 : decode cL_law 2684 = .ok (.iaload, 1) := by decide +kernel
theorem dL_law_2685 : decode cL_law 2685 = .ok (.invokevirtual 364, 3) := by decide +kernel
theorem dL_law_2688 : decode cL_law 2688 = .ok (.istore 7, 2) := by decide +kernel
theorem dL_law_2690 : decode cL_law 2690 = .ok (.aload_n 2, 1) := by decide +kernel
theorem dL_law_2691 : decode cL_law 2691 = .ok (.invokevirtual 215, 3) := by decide +kernel
theorem dL_law_2694 : decode cL_law 2694 = .ok (.iload 6, 2) := by decide +kernel
theorem dL_law_2696 : decode cL_law 2696 = .ok (.if_icmp .eq 5, 3) := by decide +kernel
theorem dL_law_2699 : decode cL_law 2699 = .ok (.iconst 0, 1) := by decide +kernel
theorem dL_law_2700 : decode cL_law 2700 = .ok (.ireturn, 1) := by decide +kernel
theorem dL_law_2701 : decode cL_law 2701 = .ok (.iload 6, 2) := by decide +kernel
theorem dL_law_2703 : decode cL_law 2703 = .ok (.ifCond .ne 15, 3) := by decide +kernel
theorem dL_law_2706 : decode cL_law 2706 = .ok (.aload_n 3, 1) := by decide +kernel
theorem dL_law_2707 : decode cL_law 2707 = .ok (.iconst 0, 1) := by decide +kernel
theorem dL_law_2708 : decode cL_law 2708 = .ok (.laload, 1) := by decide +kernel
theorem dL_law_2709 : decode cL_law 2709 = .ok (.iload 7, 2) := by decide +kernel
theorem dL_law_2711 : decode cL_law 2711 = .ok (.i2l, 1) := by decide +kernel
theorem dL_law_2712 : decode cL_law 2712 = .ok (.lcmp, 1) := by decide +kernel
theorem dL_law_2713 : decode cL_law 2713 = .ok (.ifCond .eq 5, 3) := by decide +kernel
theorem dL_law_2716 : decode cL_law 2716 = .ok (.iconst 0, 1) := by decide +kernel
theorem dL_law_2717 : decode cL_law 2717 = .ok (.ireturn, 1) := by decide +kernel
theorem dL_law_2718 : decode cL_law 2718 = .ok (.goto 806, 3) := by decide +kernel
theorem dL_law_2721 : decode cL_law 2721 = .ok (.aload_n 1, 1) := by decide +kernel
theorem dL_law_2722 : decode cL_law 2722 = .ok (.aload_n 0, 1) := by decide +kernel
theorem dL_law_2723 : decode cL_law 2723 = .ok (.iload 5, 2) := by decide +kernel
theorem dL_law_2725 : decode cL_law 2725 = .ok (.iconst 1, 1) := by decide +kernel
theorem dL_law_2726 : decode cL_law 2726 = .ok (.iadd, 1) := by decide +kernel
theorem dL_law_2727 : decode cL_law 2727 = .ok (.iaload, 1) := by decide +kernel
theorem dL_law_2728 : decode cL_law 2728 = .ok (.aload_n 3, 1) := by decide +kernel
theorem dL_law_2729 : decode cL_law 2729 = .ok (.invokestatic 365, 3) := by decide +kernel
theorem dL_law_2732 : decode cL_law 2732 = .ok (.istore 6, 2) := by decide +kernel
theorem dL_law_2734 : decode cL_law 2734 = .ok (.aload_n 2, 1) := by decide +kernel
theorem dL_law_2735 : decode cL_law 2735 = .ok (.aload_n 0, 1) := by decide +kernel
theorem dL_law_2736 : decode cL_law 2736 = .ok (.iload 5, 2) := by decide +kernel
theorem dL_law_2738 : decode cL_law 2738 = .ok (.iconst 1, 1) := by decide +kernel
theorem dL_law_2739 : decode cL_law 2739 = .ok (.iadd, 1) := by decide +kernel
theorem dL_law_2740 : decode cL_law 2740 = .ok (.iaload, 1) := by decide +kernel
theorem dL_law_2741 : decode cL_law 2741 = .ok (.invokevirtual 367, 3) := by decide +kernel
theorem dL_law_2744 : decode cL_law 2744 = .ok (.istore 7, 2) := by decide +kernel
theorem dL_law_2746 : decode cL_law 2746 = .ok (.aload_n 2, 1) := by decide +kernel
theorem dL_law_2747 : decode cL_law 2747 = .ok (.invokevirtual 215, 3) := by decide +kernel
theorem dL_law_2750 : decode cL_law 2750 = .ok (.iload 6, 2) := by decide +kernel
theorem dL_law_2752 : decode cL_law 2752 = .ok (.if_icmp .eq 5, 3) := by decide +kernel
theorem dL_law_2755 : decode cL_law 2755 = .ok (.iconst 0, 1) := by decide +kernel
theorem dL_law_2756 : decode cL_law 2756 = .ok (.ireturn, 1) := by decide +kernel
theorem dL_law_2757 : decode cL_law 2757 = .ok (.iload 6, 2) := by decide +kernel
theorem dL_law_2759 : decode cL_law 2759 = .ok (.ifCond .ne 15, 3) := by decide +kernel
theorem dL_law_2762 : decode cL_law 2762 = .ok (.aload_n 3, 1) := by decide +kernel
theorem dL_law_2763 : decode cL_law 2763 = .ok (.iconst 0, 1) := by decide +kernel
theorem dL_law_2764 : decode cL_law 2764 = .ok (.laload, 1) := by decide +kernel
theorem dL_law_2765 : decode cL_law 2765 = .ok (.iload 7, 2) := by decide +kernel
theorem dL_law_2767 : decode cL_law 2767 = .ok (.i2l, 1) := by decide +kernel
theorem dL_law_2768 : decode cL_law 2768 = .ok (.lcmp, 1) := by decide +kernel
theorem dL_law_2769 : decode cL_law 2769 = .ok (.ifCond .eq 5, 3) := by decide +kernel
theorem dL_law_2772 : decode cL_law 2772 = .ok (.iconst 0, 1) := by decide +kernel
theorem dL_law_2773 : decode cL_law 2773 = .ok (.ireturn, 1) := by decide +kernel
theorem dL_law_2774 : decode cL_law 2774 = .ok (.goto 750, 3) := by decide +kernel
theorem dL_law_2777 : decode cL_law 2777 = .ok (.aload_n 1, 1) := by decide +kernel
theorem dL_law_2778 : decode cL_law 2778 = .ok (.aload_n 0, 1) := by decide +kernel
theorem dL_law_2779 : decode cL_law 2779 = .ok (.iload 5, 2) := by decide +kernel
theorem dL_law_2781 : decode cL_law 2781 = .ok (.iconst 1, 1) := by decide +kernel
theorem dL_law_2782 : decode cL_law 2782 = .ok (.iadd, 1) := by decide +kernel
theorem dL_law_2783 : decode cL_law 2783 = .ok (.iaload, 1) := by decide +kernel
theorem dL_law_2784 : decode cL_law 2784 = .ok (.aload_n 3, 1) := by decide +kernel
theorem dL_law_2785 : decode cL_law 2785 = .ok (.invokestatic 368, 3) := by decide +kernel
theorem dL_law_2788 : decode cL_law 2788 = .ok (.istore 6, 2) := by decide +kernel
theorem dL_law_2790 : decode cL_law 2790 = .ok (.aload_n 2, 1) := by decide +kernel
theorem dL_law_2791 : decode cL_law 2791 = .ok (.aload_n 0, 1) := by decide +kernel
theorem dL_law_2792 : decode cL_law 2792 = .ok (.iload 5, 2) := by decide +kernel
theorem dL_law_2794 : decode cL_law 2794 = .ok (.iconst 1, 1) := by decide +kernel
theorem dL_law_2795 : decode cL_law 2795 = .ok (.iadd, 1) := by decide +kernel
theorem dL_law_2796 : decode cL_law 2796 = .ok (.iaload, 1) := by decide +kernel
theorem dL_law_2797 : decode cL_law 2797 = .ok (.invokevirtual 370, 3) := by decide +kernel
theorem dL_law_2800 : decode cL_law 2800 = .ok (.istore 7, 2) := by decide +kernel
theorem dL_law_2802 : decode cL_law 2802 = .ok (.aload_n 2, 1) := by decide +kernel
theorem dL_law_2803 : decode cL_law 2803 = .ok (.invokevirtual 215, 3) := by decide +kernel
theorem dL_law_2806 : decode cL_law 2806 = .ok (.iload 6, 2) := by decide +kernel
theorem dL_law_2808 : decode cL_law 2808 = .ok (.if_icmp .eq 5, 3) := by decide +kernel
theorem dL_law_2811 : decode cL_law 2811 = .ok (.iconst 0, 1) := by decide +kernel
theorem dL_law_2812 : decode cL_law 2812 = .ok (.ireturn, 1) := by decide +kernel
theorem dL_law_2813 : decode cL_law 2813 = .ok (.iload 6, 2) := by decide +kernel
theorem dL_law_2815 : decode cL_law 2815 = .ok (.ifCond .ne 15, 3) := by decide +kernel
theorem dL_law_2818 : decode cL_law 2818 = .ok (.aload_n 3, 1) := by decide +kernel
theorem dL_law_2819 : decode cL_law 2819 = .ok (.iconst 0, 1) := by decide +kernel
theorem dL_law_2820 : decode cL_law 2820 = .ok (.laload, 1) := by decide +kernel
theorem dL_law_2821 : decode cL_law 2821 = .ok (.iload 7, 2) := by decide +kernel
theorem dL_law_2823 : decode cL_law 2823 = .ok (.i2l, 1) := by decide +kernel
theorem dL_law_2824 : decode cL_law 2824 = .ok (.lcmp, 1) := by decide +kernel
theorem dL_law_2825 : decode cL_law 2825 = .ok (.ifCond .eq 5, 3) := by decide +kernel
theorem dL_law_2828 : decode cL_law 2828 = .ok (.iconst 0, 1) := by decide +kernel
theorem dL_law_2829 : decode cL_law 2829 = .ok (.ireturn, 1) := by decide +kernel
theorem dL_law_2830 : decode cL_law 2830 = .ok (.goto 694, 3) := by decide +kernel
theorem dL_law_2833 : decode cL_law 2833 = .ok (.aload_n 1, 1) := by decide +kernel
theorem dL_law_2834 : decode cL_law 2834 = .ok (.aload_n 0, 1) := by decide +kernel
theorem dL_law_2835 : decode cL_law 2835 = .ok (.iload 5, 2) := by decide +kernel
theorem dL_law_2837 : decode cL_law 2837 = .ok (.iconst 1, 1) := by decide +kernel
theorem dL_law_2838 : decode cL_law 2838 = .ok (.iadd, 1) := by decide +kernel
theorem dL_law_2839 : decode cL_law 2839 = .ok (.iaload, 1) := by decide +kernel
theorem dL_law_2840 : decode cL_law 2840 = .ok (.aload_n 3, 1) := by decide +kernel
theorem dL_law_2841 : decode cL_law 2841 = .ok (.invokestatic 371, 3) := by decide +kernel
theorem dL_law_2844 : decode cL_law 2844 = .ok (.istore 6, 2) := by decide +kernel
theorem dL_law_2846 : decode cL_law 2846 = .ok (.aload_n 2, 1) := by decide +kernel
theorem dL_law_2847 : decode cL_law 2847 = .ok (.aload_n 0, 1) := by decide +kernel
theorem dL_law_2848 : decode cL_law 2848 = .ok (.iload 5, 2) := by decide +kernel
theorem dL_law_2850 : decode cL_law 2850 = .ok (.iconst 1, 1) := by decide +kernel
theorem dL_law_2851 : decode cL_law 2851 = .ok (.iadd, 1) := by decide +kernel
theorem dL_law_2852 : decode cL_law 2852 = .ok (.iaload, 1) := by decide +kernel
theorem dL_law_2853 : decode cL_law 2853 = .ok (.invokevirtual 373, 3) := by decide +kernel
theorem dL_law_2856 : decode cL_law 2856 = .ok (.istore 7, 2) := by decide +kernel
theorem dL_law_2858 : decode cL_law 2858 = .ok (.aload_n 2, 1) := by decide +kernel
theorem dL_law_2859 : decode cL_law 2859 = .ok (.invokevirtual 215, 3) := by decide +kernel
theorem dL_law_2862 : decode cL_law 2862 = .ok (.iload 6, 2) := by decide +kernel
theorem dL_law_2864 : decode cL_law 2864 = .ok (.if_icmp .eq 5, 3) := by decide +kernel
theorem dL_law_2867 : decode cL_law 2867 = .ok (.iconst 0, 1) := by decide +kernel
theorem dL_law_2868 : decode cL_law 2868 = .ok (.ireturn, 1) := by decide +kernel
theorem dL_law_2869 : decode cL_law 2869 = .ok (.iload 6, 2) := by decide +kernel
theorem dL_law_2871 : decode cL_law 2871 = .ok (.ifCond .ne 15, 3) := by decide +kernel
theorem dL_law_2874 : decode cL_law 2874 = .ok (.aload_n 3, 1) := by decide +kernel
theorem dL_law_2875 : decode cL_law 2875 = .ok (.iconst 0, 1) := by decide +kernel
theorem dL_law_2876 : decode cL_law 2876 = .ok (.laload, 1) := by decide +kernel
theorem dL_law_2877 : decode cL_law 2877 = .ok (.iload 7, 2) := by decide +kernel
theorem dL_law_2879 : decode cL_law 2879 = .ok (.i2l, 1) := by decide +kernel
theorem dL_law_2880 : decode cL_law 2880 = .ok (.lcmp, 1) := by decide +kernel
theorem dL_law_2881 : decode cL_law 2881 = .ok (.ifCond .eq 5, 3) := by decide +kernel
theorem dL_law_2884 : decode cL_law 2884 = .ok (.iconst 0, 1) := by decide +kernel
theorem dL_law_2885 : decode cL_law 2885 = .ok (.ireturn, 1) := by decide +kernel
theorem dL_law_2886 : decode cL_law 2886 = .ok (.goto 638, 3) := by decide +kernel
theorem dL_law_2889 : decode cL_law 2889 = .ok (.aload_n 1, 1) := by decide +kernel
theorem dL_law_2890 : decode cL_law 2890 = .ok (.aload_n 3, 1) := by decide +kernel
theorem dL_law_2891 : decode cL_law 2891 = .ok (.invokestatic 374, 3) := by decide +kernel
theorem dL_law_2894 : decode cL_law 2894 = .ok (.istore 6, 2) := by decide +kernel
theorem dL_law_2896 : decode cL_law 2896 = .ok (.aload_n 2, 1) := by decide +kernel
theorem dL_law_2897 : decode cL_law 2897 = .ok (.invokevirtual 376, 3) := by decide +kernel
theorem dL_law_2900 : decode cL_law 2900 = .ok (.istore 7, 2) := by decide +kernel
theorem dL_law_2902 : decode cL_law 2902 = .ok (.aload_n 2, 1) := by decide +kernel
theorem dL_law_2903 : decode cL_law 2903 = .ok (.invokevirtual 215, 3) := by decide +kernel
theorem dL_law_2906 : decode cL_law 2906 = .ok (.iload 6, 2) := by decide +kernel
theorem dL_law_2908 : decode cL_law 2908 = .ok (.if_icmp .eq 5, 3) := by decide +kernel
theorem dL_law_2911 : decode cL_law 2911 = .ok (.iconst 0, 1) := by decide +kernel
theorem dL_law_2912 : decode cL_law 2912 = .ok (.ireturn, 1) := by decide +kernel
theorem dL_law_2913 : decode cL_law 2913 = .ok (.iload 6, 2) := by decide +kernel
theorem dL_law_2915 : decode cL_law 2915 = .ok (.ifCond .ne 15, 3) := by decide +kernel
theorem dL_law_2918 : decode cL_law 2918 = .ok (.aload_n 3, 1) := by decide +kernel
theorem dL_law_2919 : decode cL_law 2919 = .ok (.iconst 0, 1) := by decide +kernel
theorem dL_law_2920 : decode cL_law 2920 = .ok (.laload, 1) := by decide +kernel
theorem dL_law_2921 : decode cL_law 2921 = .ok (.iload 7, 2) := by decide +kernel
theorem dL_law_2923 : decode cL_law 2923 = .ok (.i2l, 1) := by decide +kernel
theorem dL_law_2924 : decode cL_law 2924 = .ok (.lcmp, 1) := by decide +kernel
theorem dL_law_2925 : decode cL_law 2925 = .ok (.ifCond .eq 5, 3) := by decide +kernel
theorem dL_law_2928 : decode cL_law 2928 = .ok (.iconst 0, 1) := by decide +kernel
theorem dL_law_2929 : decode cL_law 2929 = .ok (.ireturn, 1) := by decide +kernel
theorem dL_law_2930 : decode cL_law 2930 = .ok (.goto 594, 3) := by decide +kernel
theorem dL_law_2933 : decode cL_law 2933 = .ok (.aload_n 1, 1) := by decide +kernel
theorem dL_law_2934 : decode cL_law 2934 = .ok (.aload_n 0, 1) := by decide +kernel
theorem dL_law_2935 : decode cL_law 2935 = .ok (.iload 5, 2) := by decide +kernel
theorem dL_law_2937 : decode cL_law 2937 = .ok (.iconst 1, 1) := by decide +kernel
theorem dL_law_2938 : decode cL_law 2938 = .ok (.iadd, 1) := by decide +kernel
theorem dL_law_2939 : decode cL_law 2939 = .ok (.iaload, 1) := by decide +kernel
theorem dL_law_2940 : decode cL_law 2940 = .ok (.aload_n 3, 1) := by decide +kernel
theorem dL_law_2941 : decode cL_law 2941 = .ok (.invokestatic 377, 3) := by decide +kernel
theorem dL_law_2944 : decode cL_law 2944 = .ok (.istore 6, 2) := by decide +kernel
theorem dL_law_2946 : decode cL_law 2946 = .ok (.aload_n 2, 1) := by decide +kernel
theorem dL_law_2947 : decode cL_law 2947 = .ok (.aload_n 0, 1) := by decide +kernel
theorem dL_law_2948 : decode cL_law 2948 = .ok (.iload 5, 2) := by decide +kernel
theorem dL_law_2950 : decode cL_law 2950 = .ok (.iconst 1, 1) := by decide +kernel
theorem dL_law_2951 : decode cL_law 2951 = .ok (.iadd, 1) := by decide +kernel
theorem dL_law_2952 : decode cL_law 2952 = .ok (.iaload, 1) := by decide +kernel
theorem dL_law_2953 : decode cL_law 2953 = .ok (.invokevirtual 379, 3) := by decide +kernel
theorem dL_law_2956 : decode cL_law 2956 = .ok (.istore 7, 2) := by decide +kernel
theorem dL_law_2958 : decode cL_law 2958 = .ok (.aload_n 2, 1) := by decide +kernel
theorem dL_law_2959 : decode cL_law 2959 = .ok (.invokevirtual 215, 3) := by decide +kernel
theorem dL_law_2962 : decode cL_law 2962 = .ok (.iload 6, 2) := by decide +kernel
theorem dL_law_2964 : decode cL_law 2964 = .ok (.if_icmp .eq 5, 3) := by decide +kernel
theorem dL_law_2967 : decode cL_law 2967 = .ok (.iconst 0, 1) := by decide +kernel
theorem dL_law_2968 : decode cL_law 2968 = .ok (.ireturn, 1) := by decide +kernel
theorem dL_law_2969 : decode cL_law 2969 = .ok (.iload 6, 2) := by decide +kernel
theorem dL_law_2971 : decode cL_law 2971 = .ok (.ifCond .ne 15, 3) := by decide +kernel
theorem dL_law_2974 : decode cL_law 2974 = .ok (.aload_n 3, 1) := by decide +kernel
theorem dL_law_2975 : decode cL_law 2975 = .ok (.iconst 0, 1) := by decide +kernel
theorem dL_law_2976 : decode cL_law 2976 = .ok (.laload, 1) := by decide +kernel
theorem dL_law_2977 : decode cL_law 2977 = .ok (.iload 7, 2) := by decide +kernel
theorem dL_law_2979 : decode cL_law 2979 = .ok (.i2l, 1) := by decide +kernel
theorem dL_law_2980 : decode cL_law 2980 = .ok (.lcmp, 1) := by decide +kernel
theorem dL_law_2981 : decode cL_law 2981 = .ok (.ifCond .eq 5, 3) := by decide +kernel
theorem dL_law_2984 : decode cL_law 2984 = .ok (.iconst 0, 1) := by decide +kernel
theorem dL_law_2985 : decode cL_law 2985 = .ok (.ireturn, 1) := by decide +kernel
theorem dL_law_2986 : decode cL_law 2986 = .ok (.goto 538, 3) := by decide +kernel
theorem dL_law_2989 : decode cL_law 2989 = .ok (.aload_n 1, 1) := by decide +kernel
theorem dL_law_2990 : decode cL_law 2990 = .ok (.aload_n 0, 1) := by decide +kernel
theorem dL_law_2991 : decode cL_law 2991 = .ok (.iload 5, 2) := by decide +kernel
theorem dL_law_2993 : decode cL_law 2993 = .ok (.iconst 1, 1) := by decide +kernel
theorem dL_law_2994 : decode cL_law 2994 = .ok (.iadd, 1) := by decide +kernel
theorem dL_law_2995 : decode cL_law 2995 = .ok (.iaload, 1) := by decide +kernel
theorem dL_law_2996 : decode cL_law 2996 = .ok (.aload_n 3, 1) := by decide +kernel
theorem dL_law_2997 : decode cL_law 2997 = .ok (.invokestatic 380, 3) := by decide +kernel
theorem dL_law_3000 : decode cL_law 3000 = .ok (.istore 6, 2) := by decide +kernel
theorem dL_law_3002 : decode cL_law 3002 = .ok (.aload_n 2, 1) := by decide +kernel
theorem dL_law_3003 : decode cL_law 3003 = .ok (.aload_n 0, 1) := by decide +kernel
theorem dL_law_3004 : decode cL_law 3004 = .ok (.iload 5, 2) := by decide +kernel
theorem dL_law_3006 : decode cL_law 3006 = .ok (.iconst 1, 1) := by decide +kernel
theorem dL_law_3007 : decode cL_law 3007 = .ok (.iadd, 1) := by decide +kernel
theorem dL_law_3008 : decode cL_law 3008 = .ok (.iaload, 1) := by decide +kernel
theorem dL_law_3009 : decode cL_law 3009 = .ok (.invokevirtual 382, 3) := by decide +kernel
theorem dL_law_3012 : decode cL_law 3012 = .ok (.istore 7, 2) := by decide +kernel
theorem dL_law_3014 : decode cL_law 3014 = .ok (.aload_n 2, 1) := by decide +kernel
theorem dL_law_3015 : decode cL_law 3015 = .ok (.invokevirtual 215, 3) := by decide +kernel
theorem dL_law_3018 : decode cL_law 3018 = .ok (.iload 6, 2) := by decide +kernel
theorem dL_law_3020 : decode cL_law 3020 = .ok (.if_icmp .eq 5, 3) := by decide +kernel
theorem dL_law_3023 : decode cL_law 3023 = .ok (.iconst 0, 1) := by decide +kernel
theorem dL_law_3024 : decode cL_law 3024 = .ok (.ireturn, 1) := by decide +kernel
theorem dL_law_3025 : decode cL_law 3025 = .ok (.iload 6, 2) := by decide +kernel
theorem dL_law_3027 : decode cL_law 3027 = .ok (.ifCond .ne 15, 3) := by decide +kernel
theorem dL_law_3030 : decode cL_law 3030 = .ok (.aload_n 3, 1) := by decide +kernel
theorem dL_law_3031 : decode cL_law 3031 = .ok (.iconst 0, 1) := by decide +kernel
theorem dL_law_3032 : decode cL_law 3032 = .ok (.laload, 1) := by decide +kernel
theorem dL_law_3033 : decode cL_law 3033 = .ok (.iload 7, 2) := by decide +kernel
theorem dL_law_3035 : decode cL_law 3035 = .ok (.i2l, 1) := by decide +kernel
theorem dL_law_3036 : decode cL_law 3036 = .ok (.lcmp, 1) := by decide +kernel
theorem dL_law_3037 : decode cL_law 3037 = .ok (.ifCond .eq 5, 3) := by decide +kernel
theorem dL_law_3040 : decode cL_law 3040 = .ok (.iconst 0, 1) := by decide +kernel
theorem dL_law_3041 : decode cL_law 3041 = .ok (.ireturn, 1) := by decide +kernel
theorem dL_law_3042 : decode cL_law 3042 = .ok (.goto 482, 3) := by decide +kernel
theorem dL_law_3045 : decode cL_law 3045 = .ok (.aload_n 1, 1) := by decide +kernel
theorem dL_law_3046 : decode cL_law 3046 = .ok (.aload_n 0, 1) := by decide +kernel
theorem dL_law_3047 : decode cL_law 3047 = .ok (.iload 5, 2) := by decide +kernel
theorem dL_law_3049 : decode cL_law 3049 = .ok (.iconst 1, 1) := by decide +kernel
theorem dL_law_3050 : decode cL_law 3050 = .ok (.iadd, 1) := by decide +kernel
theorem dL_law_3051 : decode cL_law 3051 = .ok (.iaload, 1) := by decide +kernel
theorem dL_law_3052 : decode cL_law 3052 = .ok (.aload_n 3, 1) := by decide +kernel
theorem dL_law_3053 : decode cL_law 3053 = .ok (.invokestatic 383, 3) := by decide +kernel
theorem dL_law_3056 : decode cL_law 3056 = .ok (.istore 6, 2) := by decide +kernel
theorem dL_law_3058 : decode cL_law 3058 = .ok (.aload_n 2, 1) := by decide +kernel
theorem dL_law_3059 : decode cL_law 3059 = .ok (.aload_n 0, 1) := by decide +kernel
theorem dL_law_3060 : decode cL_law 3060 = .ok (.iload 5, 2) := by decide +kernel
theorem dL_law_3062 : decode cL_law 3062 = .ok (.iconst 1, 1) := by decide +kernel
theorem dL_law_3063 : decode cL_law 3063 = .ok (.iadd, 1) := by decide +kernel
theorem dL_law_3064 : decode cL_law 3064 = .ok (.iaload, 1) := by decide +kernel
theorem dL_law_3065 : decode cL_law 3065 = .ok (.invokevirtual 385, 3) := by decide +kernel
theorem dL_law_3068 : decode cL_law 3068 = .ok (.istore 7, 2) := by decide +kernel
theorem dL_law_3070 : decode cL_law 3070 = .ok (.aload_n 2, 1) := by decide +kernel
theorem dL_law_3071 : decode cL_law 3071 = .ok (.invokevirtual 215, 3) := by decide +kernel
theorem dL_law_3074 : decode cL_law 3074 = .ok (.iload 6, 2) := by decide +kernel
theorem dL_law_3076 : decode cL_law 3076 = .ok (.if_icmp .eq 5, 3) := by decide +kernel
theorem dL_law_3079 : decode cL_law 3079 = .ok (.iconst 0, 1) := by decide +kernel
theorem dL_law_3080 : decode cL_law 3080 = .ok (.ireturn, 1) := by decide +kernel
theorem dL_law_3081 : decode cL_law 3081 = .ok (.iload 6, 2) := by decide +kernel
theorem dL_law_3083 : decode cL_law 3083 = .ok (.ifCond .ne 15, 3) := by decide +kernel
theorem dL_law_3086 : decode cL_law 3086 = .ok (.aload_n 3, 1) := by decide +kernel
theorem dL_law_3087 : decode cL_law 3087 = .ok (.iconst 0, 1) := by decide +kernel
theorem dL_law_3088 : decode cL_law 3088 = .ok (.laload, 1) := by decide +kernel
theorem dL_law_3089 : decode cL_law 3089 = .ok (.iload 7, 2) := by decide +kernel
theorem dL_law_3091 : decode cL_law 3091 = .ok (.i2l, 1) := by decide +kernel
theorem dL_law_3092 : decode cL_law 3092 = .ok (.lcmp, 1) := by decide +kernel
theorem dL_law_3093 : decode cL_law 3093 = .ok (.ifCond .eq 5, 3) := by decide +kernel
theorem dL_law_3096 : decode cL_law 3096 = .ok (.iconst 0, 1) := by decide +kernel
theorem dL_law_3097 : decode cL_law 3097 = .ok (.ireturn, 1) := by decide +kernel
theorem dL_law_3098 : decode cL_law 3098 = .ok (.goto 426, 3) := by decide +kernel
theorem dL_law_3101 : decode cL_law 3101 = .ok (.aload_n 1, 1) := by decide +kernel
theorem dL_law_3102 : decode cL_law 3102 = .ok (.aload_n 0, 1) := by decide +kernel
theorem dL_law_3103 : decode cL_law 3103 = .ok (.iload 5, 2) := by decide +kernel
theorem dL_law_3105 : decode cL_law 3105 = .ok (.iconst 1, 1) := by decide +kernel
theorem dL_law_3106 : decode cL_law 3106 = .ok (.iadd, 1) := by decide +kernel
theorem dL_law_3107 : decode cL_law 3107 = .ok (.iaload, 1) := by decide +kernel
theorem dL_law_3108 : decode cL_law 3108 = .ok (.aload_n 0, 1) := by decide +kernel
theorem dL_law_3109 : decode cL_law 3109 = .ok (.iload 5, 2) := by decide +kernel
theorem dL_law_3111 : decode cL_law 3111 = .ok (.iconst 2, 1) := by decide +kernel
theorem dL_law_3112 : decode cL_law 3112 = .ok (.iadd, 1) := by decide +kernel
theorem dL_law_3113 : decode cL_law 3113 = .ok (.iaload, 1) := by decide +kernel
theorem dL_law_3114 : decode cL_law 3114 = .ok (.ifCond .eq 7, 3) := by decide +kernel
theorem dL_law_3117 : decode cL_law 3117 = .ok (.iconst 1, 1) := by decide +kernel
theorem dL_law_3118 : decode cL_law 3118 = .ok (.goto 4, 3) := by decide +kernel
theorem dL_law_3121 : decode cL_law 3121 = .ok (.iconst 0, 1) := by decide +kernel
theorem dL_law_3122 : decode cL_law 3122 = .ok (.aload_n 3, 1) := by decide +kernel
theorem dL_law_3123 : decode cL_law 3123 = .ok (.invokestatic 386, 3) := by decide +kernel
theorem dL_law_3126 : decode cL_law 3126 = .ok (.istore 6, 2) := by decide +kernel
theorem dL_law_3128 : decode cL_law 3128 = .ok (.aload_n 2, 1) := by decide +kernel
theorem dL_law_3129 : decode cL_law 3129 = .ok (.aload_n 0, 1) := by decide +kernel
theorem dL_law_3130 : decode cL_law 3130 = .ok (.iload 5, 2) := by decide +kernel
theorem dL_law_3132 : decode cL_law 3132 = .ok (.iconst 1, 1) := by decide +kernel
theorem dL_law_3133 : decode cL_law 3133 = .ok (.iadd, 1) := by decide +kernel
theorem dL_law_3134 : decode cL_law 3134 = .ok (.iaload, 1) := by decide +kernel
theorem dL_law_3135 : decode cL_law 3135 = .ok (.aload_n 0, 1) := by decide +kernel
theorem dL_law_3136 : decode cL_law 3136 = .ok (.iload 5, 2) := by decide +kernel
theorem dL_law_3138 : decode cL_law 3138 = .ok (.iconst 2, 1) := by decide +kernel
theorem dL_law_3139 : decode cL_law 3139 = .ok (.iadd, 1) := by decide +kernel
theorem dL_law_3140 : decode cL_law 3140 = .ok (.iaload, 1) := by decide +kernel
theorem dL_law_3141 : decode cL_law 3141 = .ok (.ifCond .eq 7, 3) := by decide +kernel
theorem dL_law_3144 : decode cL_law 3144 = .ok (.iconst 1, 1) := by decide +kernel
theorem dL_law_3145 : decode cL_law 3145 = .ok (.goto 4, 3) := by decide +kernel
theorem dL_law_3148 : decode cL_law 3148 = .ok (.iconst 0, 1) := by decide +kernel
theorem dL_law_3149 : decode cL_law 3149 = .ok (.invokevirtual 389, 3) := by decide +kernel
theorem dL_law_3152 : decode cL_law 3152 = .ok (.istore 7, 2) := by decide +kernel
theorem dL_law_3154 : decode cL_law 3154 = .ok (.aload_n 2, 1) := by decide +kernel
theorem dL_law_3155 : decode cL_law 3155 = .ok (.invokevirtual 215, 3) := by decide +kernel
theorem dL_law_3158 : decode cL_law 3158 = .ok (.iload 6, 2) := by decide +kernel
theorem dL_law_3160 : decode cL_law 3160 = .ok (.if_icmp .eq 5, 3) := by decide +kernel
theorem dL_law_3163 : decode cL_law 3163 = .ok (.iconst 0, 1) := by decide +kernel
theorem dL_law_3164 : decode cL_law 3164 = .ok (.ireturn, 1) := by decide +kernel
theorem dL_law_3165 : decode cL_law 3165 = .ok (.iload 6, 2) := by decide +kernel
theorem dL_law_3167 : decode cL_law 3167 = .ok (.ifCond .ne 22, 3) := by decide +kernel
theorem dL_law_3170 : decode cL_law 3170 = .ok (.aload_n 3, 1) := by decide +kernel
theorem dL_law_3171 : decode cL_law 3171 = .ok (.iconst 0, 1) := by decide +kernel
theorem dL_law_3172 : decode cL_law 3172 = .ok (.laload, 1) := by decide +kernel
theorem dL_law_3173 : decode cL_law 3173 = .ok (.iload 7, 2) := by decide +kernel
theorem dL_law_3175 : decode cL_law 3175 = .ok (.ifCond .eq 7, 3) := by decide +kernel
theorem dL_law_3178 : decode cL_law 3178 = .ok (.lconst 1, 1) := by decide +kernel
theorem dL_law_3179 : decode cL_law 3179 = .ok (.goto 4, 3) := by decide +kernel
theorem dL_law_3182 : decode cL_law 3182 = .ok (.lconst 0, 1) := by decide +kernel
theorem dL_law_3183 : decode cL_law 3183 = .ok (.lcmp, 1) := by decide +kernel
theorem dL_law_3184 : decode cL_law 3184 = .ok (.ifCond .eq 5, 3) := by decide +kernel
theorem dL_law_3187 : decode cL_law 3187 = .ok (.iconst 0, 1) := by decide +kernel
theorem dL_law_3188 : decode cL_law 3188 = .ok (.ireturn, 1) := by decide +kernel
theorem dL_law_3189 : decode cL_law 3189 = .ok (.goto 335, 3) := by decide +kernel
theorem dL_law_3192 : decode cL_law 3192 = .ok (.aload_n 1, 1) := by decide +kernel
theorem dL_law_3193 : decode cL_law 3193 = .ok (.aload_n 0, 1) := by decide +kernel
theorem dL_law_3194 : decode cL_law 3194 = .ok (.iload 5, 2) := by decide +kernel
theorem dL_law_3196 : decode cL_law 3196 = .ok (.iconst 1, 1) := by decide +kernel
theorem dL_law_3197 : decode cL_law 3197 = .ok (.iadd, 1) := by decide +kernel
theorem dL_law_3198 : decode cL_law 3198 = .ok (.iaload, 1) := by decide +kernel
theorem dL_law_3199 : decode cL_law 3199 = .ok (.aload_n 3, 1) := by decide +kernel
theorem dL_law_3200 : decode cL_law 3200 = .ok (.invokestatic 390, 3) := by decide +kernel
theorem dL_law_3203 : decode cL_law 3203 = .ok (.istore 6, 2) := by decide +kernel
theorem dL_law_3205 : decode cL_law 3205 = .ok (.aload_n 2, 1) := by decide +kernel
theorem dL_law_3206 : decode cL_law 3206 = .ok (.aload_n 0, 1) := by decide +kernel
theorem dL_law_3207 : decode cL_law 3207 = .ok (.iload 5, 2) := by decide +kernel
theorem dL_law_3209 : decode cL_law 3209 = .ok (.iconst 1, 1) := by decide +kernel
theorem dL_law_3210 : decode cL_law 3210 = .ok (.iadd, 1) := by decide +kernel
theorem dL_law_3211 : decode cL_law 3211 = .ok (.iaload, 1) := by decide +kernel
theorem dL_law_3212 : decode cL_law 3212 = .ok (.invokevirtual 392, 3) := by decide +kernel
theorem dL_law_3215 : decode cL_law 3215 = .ok (.istore 7, 2) := by decide +kernel
theorem dL_law_3217 : decode cL_law 3217 = .ok (.aload_n 2, 1) := by decide +kernel
theorem dL_law_3218 : decode cL_law 3218 = .ok (.invokevirtual 215, 3) := by decide +kernel
theorem dL_law_3221 : decode cL_law 3221 = .ok (.iload 6, 2) := by decide +kernel
theorem dL_law_3223 : decode cL_law 3223 = .ok (.if_icmp .eq 5, 3) := by decide +kernel
theorem dL_law_3226 : decode cL_law 3226 = .ok (.iconst 0, 1) := by decide +kernel
theorem dL_law_3227 : decode cL_law 3227 = .ok (.ireturn, 1) := by decide +kernel
theorem dL_law_3228 : decode cL_law 3228 = .ok (.iload 6, 2) := by decide +kernel
theorem dL_law_3230 : decode cL_law 3230 = .ok (.ifCond .ne 15, 3) := by decide +kernel
theorem dL_law_3233 : decode cL_law 3233 = .ok (.aload_n 3, 1) := by decide +kernel
theorem dL_law_3234 : decode cL_law 3234 = .ok (.iconst 0, 1) := by decide +kernel
theorem dL_law_3235 : decode cL_law 3235 = .ok (.laload, 1) := by decide +kernel
theorem dL_law_3236 : decode cL_law 3236 = .ok (.iload 7, 2) := by decide +kernel
theorem dL_law_3238 : decode cL_law 3238 = .ok (.i2l, 1) := by decide +kernel
theorem dL_law_3239 : decode cL_law 3239 = .ok (.lcmp, 1) := by decide +kernel
theorem dL_law_3240 : decode cL_law 3240 = .ok (.ifCond .eq 5, 3) := by decide +kernel
theorem dL_law_3243 : decode cL_law 3243 = .ok (.iconst 0, 1) := by decide +kernel
theorem dL_law_3244 : decode cL_law 3244 = .ok (.ireturn, 1) := by decide +kernel
theorem dL_law_3245 : decode cL_law 3245 = .ok (.goto 279, 3) := by decide +kernel
theorem dL_law_3248 : decode cL_law 3248 = .ok (.aload_n 1, 1) := by decide +kernel
theorem dL_law_3249 : decode cL_law 3249 = .ok (.aload_n 0, 1) := by decide +kernel
theorem dL_law_3250 : decode cL_law 3250 = .ok (.iload 5, 2) := by decide +kernel
theorem dL_law_3252 : decode cL_law 3252 = .ok (.iconst 1, 1) := by decide +kernel
theorem dL_law_3253 : decode cL_law 3253 = .ok (.iadd, 1) := by decide +kernel
theorem dL_law_3254 : decode cL_law 3254 = .ok (.iaload, 1) := by decide +kernel
theorem dL_law_3255 : decode cL_law 3255 = .ok (.aload_n 3, 1) := by decide +kernel
theorem dL_law_3256 : decode cL_law 3256 = .ok (.invokestatic 393, 3) := by decide +kernel
theorem dL_law_3259 : decode cL_law 3259 = .ok (.istore 6, 2) := by decide +kernel
theorem dL_law_3261 : decode cL_law 3261 = .ok (.aload_n 2, 1) := by decide +kernel
theorem dL_law_3262 : decode cL_law 3262 = .ok (.aload_n 0, 1) := by decide +kernel
theorem dL_law_3263 : decode cL_law 3263 = .ok (.iload 5, 2) := by decide +kernel
theorem dL_law_3265 : decode cL_law 3265 = .ok (.iconst 1, 1) := by decide +kernel
theorem dL_law_3266 : decode cL_law 3266 = .ok (.iadd, 1) := by decide +kernel
theorem dL_law_3267 : decode cL_law 3267 = .ok (.iaload, 1) := by decide +kernel
theorem dL_law_3268 : decode cL_law 3268 = .ok (.invokevirtual 395, 3) := by decide +kernel
theorem dL_law_3271 : decode cL_law 3271 = .ok (.istore 7, 2) := by decide +kernel
theorem dL_law_3273 : decode cL_law 3273 = .ok (.aload_n 2, 1) := by decide +kernel
theorem dL_law_3274 : decode cL_law 3274 = .ok (.invokevirtual 215, 3) := by decide +kernel
theorem dL_law_3277 : decode cL_law 3277 = .ok (.iload 6, 2) := by decide +kernel
theorem dL_law_3279 : decode cL_law 3279 = .ok (.if_icmp .eq 5, 3) := by decide +kernel
theorem dL_law_3282 : decode cL_law 3282 = .ok (.iconst 0, 1) := by decide +kernel
theorem dL_law_3283 : decode cL_law 3283 = .ok (.ireturn, 1) := by decide +kernel
theorem dL_law_3284 : decode cL_law 3284 = .ok (.iload 6, 2) := by decide +kernel
theorem dL_law_3286 : decode cL_law 3286 = .ok (.ifCond .ne 15, 3) := by decide +kernel
theorem dL_law_3289 : decode cL_law 3289 = .ok (.aload_n 3, 1) := by decide +kernel
theorem dL_law_3290 : decode cL_law 3290 = .ok (.iconst 0, 1) := by decide +kernel
theorem dL_law_3291 : decode cL_law 3291 = .ok (.laload, 1) := by decide +kernel
theorem dL_law_3292 : decode cL_law 3292 = .ok (.iload 7, 2) := by decide +kernel
theorem dL_law_3294 : decode cL_law 3294 = .ok (.i2l, 1) := by decide +kernel
theorem dL_law_3295 : decode cL_law 3295 = .ok (.lcmp, 1) := by decide +kernel
theorem dL_law_3296 : decode cL_law 3296 = .ok (.ifCond .eq 5, 3) := by decide +kernel
theorem dL_law_3299 : decode cL_law 3299 = .ok (.iconst 0, 1) := by decide +kernel
theorem dL_law_3300 : decode cL_law 3300 = .ok (.ireturn, 1) := by decide +kernel
theorem dL_law_3301 : decode cL_law 3301 = .ok (.goto 223, 3) := by decide +kernel
theorem dL_law_3304 : decode cL_law 3304 = .ok (.aload_n 1, 1) := by decide +kernel
theorem dL_law_3305 : decode cL_law 3305 = .ok (.aload_n 3, 1) := by decide +kernel
theorem dL_law_3306 : decode cL_law 3306 = .ok (.invokestatic 396, 3) := by decide +kernel
theorem dL_law_3309 : decode cL_law 3309 = .ok (.istore 6, 2) := by decide +kernel
theorem dL_law_3311 : decode cL_law 3311 = .ok (.aload_n 2, 1) := by decide +kernel
theorem dL_law_3312 : decode cL_law 3312 = .ok (.invokevirtual 398, 3) := by decide +kernel
theorem dL_law_3315 : decode cL_law 3315 = .ok (.istore 7, 2) := by decide +kernel
theorem dL_law_3317 : decode cL_law 3317 = .ok (.aload_n 2, 1) := by decide +kernel
theorem dL_law_3318 : decode cL_law 3318 = .ok (.invokevirtual 215, 3) := by decide +kernel
theorem dL_law_3321 : decode cL_law 3321 = .ok (.iload 6, 2) := by decide +kernel
theorem dL_law_3323 : decode cL_law 3323 = .ok (.if_icmp .eq 5, 3) := by decide +kernel
theorem dL_law_3326 : decode cL_law 3326 = .ok (.iconst 0, 1) := by decide +kernel
theorem dL_law_3327 : decode cL_law 3327 = .ok (.ireturn, 1) := by decide +kernel
theorem dL_law_3328 : decode cL_law 3328 = .ok (.iload 6, 2) := by decide +kernel
theorem dL_law_3330 : decode cL_law 3330 = .ok (.ifCond .ne 22, 3) := by decide +kernel
theorem dL_law_3333 : decode cL_law 3333 = .ok (.aload_n 3, 1) := by decide +kernel
theorem dL_law_3334 : decode cL_law 3334 = .ok (.iconst 0, 1) := by decide +kernel
theorem dL_law_3335 : decode cL_law 3335 = .ok (.laload, 1) := by decide +kernel
theorem dL_law_3336 : decode cL_law 3336 = .ok (.iload 7, 2) := by decide +kernel
theorem dL_law_3338 : decode cL_law 3338 = .ok (.ifCond .eq 7, 3) := by decide +kernel
theorem dL_law_3341 : decode cL_law 3341 = .ok (.lconst 1, 1) := by decide +kernel
theorem dL_law_3342 : decode cL_law 3342 = .ok (.goto 4, 3) := by decide +kernel
theorem dL_law_3345 : decode cL_law 3345 = .ok (.lconst 0, 1) := by decide +kernel
theorem dL_law_3346 : decode cL_law 3346 = .ok (.lcmp, 1) := by decide +kernel
theorem dL_law_3347 : decode cL_law 3347 = .ok (.ifCond .eq 5, 3) := by decide +kernel
theorem dL_law_3350 : decode cL_law 3350 = .ok (.iconst 0, 1) := by decide +kernel
theorem dL_law_3351 : decode cL_law 3351 = .ok (.ireturn, 1) := by decide +kernel
theorem dL_law_3352 : decode cL_law 3352 = .ok (.goto 172, 3) := by decide +kernel
theorem dL_law_3355 : decode cL_law 3355 = .ok (.aload_n 1, 1) := by decide +kernel
theorem dL_law_3356 : decode cL_law 3356 = .ok (.aload_n 3, 1) := by decide +kernel
theorem dL_law_3357 : decode cL_law 3357 = .ok (.invokestatic 399, 3) := by decide +kernel
theorem dL_law_3360 : decode cL_law 3360 = .ok (.istore 6, 2) := by decide +kernel
theorem dL_law_3362 : decode cL_law 3362 = .ok (.aload_n 2, 1) := by decide +kernel
theorem dL_law_3363 : decode cL_law 3363 = .ok (.invokevirtual 401, 3) := by decide +kernel
theorem dL_law_3366 : decode cL_law 3366 = .ok (.istore 7, 2) := by decide +kernel
theorem dL_law_3368 : decode cL_law 3368 = .ok (.aload_n 2, 1) := by decide +kernel
theorem dL_law_3369 : decode cL_law 3369 = .ok (.invokevirtual 215, 3) := by decide +kernel
theorem dL_law_3372 : decode cL_law 3372 = .ok (.iload 6, 2) := by decide +kernel
theorem dL_law_3374 : decode cL_law 3374 = .ok (.if_icmp .eq 5, 3) := by decide +kernel
theorem dL_law_3377 : decode cL_law 3377 = .ok (.iconst 0, 1) := by decide +kernel
theorem dL_law_3378 : decode cL_law 3378 = .ok (.ireturn, 1) := by decide +kernel
theorem dL_law_3379 : decode cL_law 3379 = .ok (.iload 6, 2) := by decide +kernel
theorem dL_law_3381 : decode cL_law 3381 = .ok (.ifCond .ne 15, 3) := by decide +kernel
theorem dL_law_3384 : decode cL_law 3384 = .ok (.aload_n 3, 1) := by decide +kernel
theorem dL_law_3385 : decode cL_law 3385 = .ok (.iconst 0, 1) := by decide +kernel
theorem dL_law_3386 : decode cL_law 3386 = .ok (.laload, 1) := by decide +kernel
theorem dL_law_3387 : decode cL_law 3387 = .ok (.iload 7, 2) := by decide +kernel
theorem dL_law_3389 : decode cL_law 3389 = .ok (.i2l, 1) := by decide +kernel
theorem dL_law_3390 : decode cL_law 3390 = .ok (.lcmp, 1) := by decide +kernel
theorem dL_law_3391 : decode cL_law 3391 = .ok (.ifCond .eq 5, 3) := by decide +kernel
theorem dL_law_3394 : decode cL_law 3394 = .ok (.iconst 0, 1) := by decide +kernel
theorem dL_law_3395 : decode cL_law 3395 = .ok (.ireturn, 1) := by decide +kernel
theorem dL_law_3396 : decode cL_law 3396 = .ok (.goto 128, 3) := by decide +kernel
theorem dL_law_3399 : decode cL_law 3399 = .ok (.aload_n 1, 1) := by decide +kernel
theorem dL_law_3400 : decode cL_law 3400 = .ok (.invokevirtual 402, 3) := by decide +kernel
theorem dL_law_3403 : decode cL_law 3403 = .ok (.aload_n 2, 1) := by decide +kernel
theorem dL_law_3404 : decode cL_law 3404 = .ok (.invokevirtual 405, 3) := by decide +kernel
theorem dL_law_3407 : decode cL_law 3407 = .ok (.if_icmp .eq 117, 3) := by decide +kernel
theorem dL_law_3410 : decode cL_law 3410 = .ok (.iconst 0, 1) := by decide +kernel
theorem dL_law_3411 : decode cL_law 3411 = .ok (.ireturn, 1) := by decide +kernel
theorem dL_law_3412 : decode cL_law 3412 = .ok (.aload_n 1, 1) := by decide +kernel
theorem dL_law_3413 : decode cL_law 3413 = .ok (.aload_n 0, 1) := by decide +kernel
theorem dL_law_3414 : decode cL_law 3414 = .ok (.iload 5, 2) := by decide +kernel
theorem dL_law_3416 : decode cL_law 3416 = .ok (.iconst 1, 1) := by decide +kernel
theorem dL_law_3417 : decode cL_law 3417 = .ok (.iadd, 1) := by decide +kernel
theorem dL_law_3418 : decode cL_law 3418 = .ok (.iaload, 1) := by decide +kernel
theorem dL_law_3419 : decode cL_law 3419 = .ok (.aload_n 3, 1) := by decide +kernel
theorem dL_law_3420 : decode cL_law 3420 = .ok (.invokestatic 406, 3) := by decide +kernel
theorem dL_law_3423 : decode cL_law 3423 = .ok (.istore 6, 2) := by decide +kernel
theorem dL_law_3425 : decode cL_law 3425 = .ok (.aload_n 2, 1) := by decide +kernel
theorem dL_law_3426 : decode cL_law 3426 = .ok (.aload_n 0, 1) := by decide +kernel
theorem dL_law_3427 : decode cL_law 3427 = .ok (.iload 5, 2) := by decide +kernel
theorem dL_law_3429 : decode cL_law 3429 = .ok (.iconst 1, 1) := by decide +kernel
theorem dL_law_3430 : decode cL_law 3430 = .ok (.iadd, 1) := by decide +kernel
theorem dL_law_3431 : decode cL_law 3431 = .ok (.iaload, 1) := by decide +kernel
theorem dL_law_3432 : decode cL_law 3432 = .ok (.invokevirtual 408, 3) := by decide +kernel
theorem dL_law_3435 : decode cL_law 3435 = .ok (.istore 7, 2) := by decide +kernel
theorem dL_law_3437 : decode cL_law 3437 = .ok (.aload_n 2, 1) := by decide +kernel
theorem dL_law_3438 : decode cL_law 3438 = .ok (.invokevirtual 215, 3) := by decide +kernel
theorem dL_law_3441 : decode cL_law 3441 = .ok (.iload 6, 2) := by decide +kernel
theorem dL_law_3443 : decode cL_law 3443 = .ok (.if_icmp .eq 5, 3) := by decide +kernel
theorem dL_law_3446 : decode cL_law 3446 = .ok (.iconst 0, 1) := by decide +kernel
theorem dL_law_3447 : decode cL_law 3447 = .ok (.ireturn, 1) := by decide +kernel
theorem dL_law_3448 : decode cL_law 3448 = .ok (.iload 6, 2) := by decide +kernel
theorem dL_law_3450 : decode cL_law 3450 = .ok (.ifCond .ne 15, 3) := by decide +kernel
theorem dL_law_3453 : decode cL_law 3453 = .ok (.aload_n 3, 1) := by decide +kernel
theorem dL_law_3454 : decode cL_law 3454 = .ok (.iconst 0, 1) := by decide +kernel
theorem dL_law_3455 : decode cL_law 3455 = .ok (.laload, 1) := by decide +kernel
theorem dL_law_3456 : decode cL_law 3456 = .ok (.iload 7, 2) := by decide +kernel
theorem dL_law_3458 : decode cL_law 3458 = .ok (.i2l, 1) := by decide +kernel
theorem dL_law_3459 : decode cL_law 3459 = .ok (.lcmp, 1) := by decide +kernel
theorem dL_law_3460 : decode cL_law 3460 = .ok (.ifCond .eq 5, 3) := by decide +kernel
theorem dL_law_3463 : decode cL_law 3463 = .ok (.iconst 0, 1) := by decide +kernel
theorem dL_law_3464 : decode cL_law 3464 = .ok (.ireturn, 1) := by decide +kernel
theorem dL_law_3465 : decode cL_law 3465 = .ok (.goto 59, 3) := by decide +kernel
theorem dL_law_3468 : decode cL_law 3468 = .ok (.aload_n 1, 1) := by decide +kernel
theorem dL_law_3469 : decode cL_law 3469 = .ok (.aload_n 0, 1) := by decide +kernel
theorem dL_law_3470 : decode cL_law 3470 = .ok (.iload 5, 2) := by decide +kernel
theorem dL_law_3472 : decode cL_law 3472 = .ok (.iconst 1, 1) := by decide +kernel
theorem dL_law_3473 : decode cL_law 3473 = .ok (.iadd, 1) := by decide +kernel
theorem dL_law_3474 : decode cL_law 3474 = .ok (.iaload, 1) := by decide +kernel
theorem dL_law_3475 : decode cL_law 3475 = .ok (.aload_n 3, 1) := by decide +kernel
theorem dL_law_3476 : decode cL_law 3476 = .ok (.invokestatic 409, 3) := by decide +kernel
theorem dL_law_3479 : decode cL_law 3479 = .ok (.istore 6, 2) := by decide +kernel
theorem dL_law_3481 : decode cL_law 3481 = .ok (.aload_n 2, 1) := by decide +kernel
theorem dL_law_3482 : decode cL_law 3482 = .ok (.aload_n 0, 1) := by decide +kernel
theorem dL_law_3483 : decode cL_law 3483 = .ok (.iload 5, 2) := by decide +kernel
theorem dL_law_3485 : decode cL_law 3485 = .ok (.iconst 1, 1) := by decide +kernel
theorem dL_law_3486 : decode cL_law 3486 = .ok (.iadd, 1) := by decide +kernel
theorem dL_law_3487 : decode cL_law 3487 = .ok (.iaload, 1) := by decide +kernel
theorem dL_law_3488 : decode cL_law 3488 = .ok (.invokevirtual 411, 3) := by decide +kernel
theorem dL_law_3491 : decode cL_law 3491 = .ok (.istore 7, 2) := by decide +kernel
theorem dL_law_3493 : decode cL_law 3493 = .ok (.aload_n 2, 1) := by decide +kernel
theorem dL_law_3494 : decode cL_law 3494 = .ok (.invokevirtual 215, 3) := by decide +kernel
theorem dL_law_3497 : decode cL_law 3497 = .ok (.iload 6, 2) := by decide +kernel
theorem dL_law_3499 : decode cL_law 3499 = .ok (.if_icmp .eq 5, 3) := by decide +kernel
theorem dL_law_3502 : decode cL_law 3502 = .ok (.iconst 0, 1) := by decide +kernel
theorem dL_law_3503 : decode cL_law 3503 = .ok (.ireturn, 1) := by decide +kernel
theorem dL_law_3504 : decode cL_law 3504 = .ok (.iload 6, 2) := by decide +kernel
theorem dL_law_3506 : decode cL_law 3506 = .ok (.ifCond .ne 15, 3) := by decide +kernel
theorem dL_law_3509 : decode cL_law 3509 = .ok (.aload_n 3, 1) := by decide +kernel
theorem dL_law_3510 : decode cL_law 3510 = .ok (.iconst 0, 1) := by decide +kernel
theorem dL_law_3511 : decode cL_law 3511 = .ok (.laload, 1) := by decide +kernel
theorem dL_law_3512 : decode cL_law 3512 = .ok (.iload 7, 2) := by decide +kernel
theorem dL_law_3514 : decode cL_law 3514 = .ok (.i2l, 1) := by decide +kernel
theorem dL_law_3515 : decode cL_law 3515 = .ok (.lcmp, 1) := by decide +kernel
theorem dL_law_3516 : decode cL_law 3516 = .ok (.ifCond .eq 5, 3) := by decide +kernel
theorem dL_law_3519 : decode cL_law 3519 = .ok (.iconst 0, 1) := by decide +kernel
theorem dL_law_3520 : decode cL_law 3520 = .ok (.ireturn, 1) := by decide +kernel
theorem dL_law_3521 : decode cL_law 3521 = .ok (.goto 3, 3) := by decide +kernel
theorem dL_law_3524 : decode cL_law 3524 = .ok (.iinc 5 6, 3) := by decide +kernel
theorem dL_law_3527 : decode cL_law 3527 = .ok (.goto (-3499), 3) := by decide +kernel
theorem dL_law_3530 : decode cL_law 3530 = .ok (.iconst 1, 1) := by decide +kernel
theorem dL_law_3531 : decode cL_law 3531 = .ok (.ireturn, 1) := by decide +kernel
abbrev vwCl : List vw_C := [(RJ0, TJ0, 4), (RJ4, TJ4, 4), (RJx00060, TJx00060, 6), (RJx7c733, TJx7c733, 6), (RX1, TX1, 5), (RX2, TX2, 13), (RX3, TX3, 3), (RX4, TX4, 11), (RX6, TX6, 5), (RX7, TX7, 9), (RX8, TX8, 14), (RX9, TX9, 8), (RX10, TX10, 22)]
