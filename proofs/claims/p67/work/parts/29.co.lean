/-! the tables' facts -/
theorem fw_0 : ∀ w ∈ u_ws RJ0 TJ0 4, w ∈ sg_T := by decide +kernel
theorem fd_0 : ∀ a, a < 4 → ∀ b, b < 4 → a ≠ b → (TJ0 a).2.1 ≠ (TJ0 b).2.1 := by decide +kernel
theorem fw_2 : ∀ w ∈ u_ws RJx4a65c TJx4a65c 3, w ∈ sg_T := by decide +kernel
theorem fd_2 : ∀ a, a < 3 → ∀ b, b < 3 → a ≠ b → (TJx4a65c a).2.1 ≠ (TJx4a65c b).2.1 := by decide +kernel
theorem fw_1 : ∀ w ∈ u_ws RJ4 TJ4 4, w ∈ sg_T := by decide +kernel
theorem fd_1 : ∀ a, a < 4 → ∀ b, b < 4 → a ≠ b → (TJ4 a).2.1 ≠ (TJ4 b).2.1 := by decide +kernel
theorem fw_4 : ∀ w ∈ u_ws RX1 TX1 5, w ∈ sg_T := by decide +kernel
theorem fd_4 : ∀ a, a < 5 → ∀ b, b < 5 → a ≠ b → (TX1 a).2.1 ≠ (TX1 b).2.1 := by decide +kernel
theorem fw_5 : ∀ w ∈ u_ws RX2 TX2 13, w ∈ sg_T := by decide +kernel
theorem fd_5 : ∀ a, a < 13 → ∀ b, b < 13 → a ≠ b → (TX2 a).2.1 ≠ (TX2 b).2.1 := by decide +kernel
theorem fw_6 : ∀ w ∈ u_ws RX3 TX3 3, w ∈ sg_T := by decide +kernel
theorem fd_6 : ∀ a, a < 3 → ∀ b, b < 3 → a ≠ b → (TX3 a).2.1 ≠ (TX3 b).2.1 := by decide +kernel
theorem fw_7 : ∀ w ∈ u_ws RX4 TX4 11, w ∈ sg_T := by decide +kernel
theorem fd_7 : ∀ a, a < 11 → ∀ b, b < 11 → a ≠ b → (TX4 a).2.1 ≠ (TX4 b).2.1 := by decide +kernel
theorem fw_8 : ∀ w ∈ u_ws RX6 TX6 5, w ∈ sg_T := by decide +kernel
theorem fd_8 : ∀ a, a < 5 → ∀ b, b < 5 → a ≠ b → (TX6 a).2.1 ≠ (TX6 b).2.1 := by decide +kernel
theorem fw_9 : ∀ w ∈ u_ws RX7 TX7 9, w ∈ sg_T := by decide +kernel
theorem fd_9 : ∀ a, a < 9 → ∀ b, b < 9 → a ≠ b → (TX7 a).2.1 ≠ (TX7 b).2.1 := by decide +kernel
theorem fw_10 : ∀ w ∈ u_ws RX8 TX8 14, w ∈ sg_T := by decide +kernel
theorem fd_10 : ∀ a, a < 14 → ∀ b, b < 14 → a ≠ b → (TX8 a).2.1 ≠ (TX8 b).2.1 := by decide +kernel
theorem fw_11 : ∀ w ∈ u_ws RX9 TX9 8, w ∈ sg_T := by decide +kernel
theorem fd_11 : ∀ a, a < 8 → ∀ b, b < 8 → a ≠ b → (TX9 a).2.1 ≠ (TX9 b).2.1 := by decide +kernel
theorem fw_12 : ∀ w ∈ u_ws RX10 TX10 31, w ∈ sg_T := by decide +kernel
theorem fd_12 : ∀ a, a < 31 → ∀ b, b < 31 → a ≠ b → (TX10 a).2.1 ≠ (TX10 b).2.1 := by decide +kernel
theorem fo_0_9 : am_FO 0 9 (0, 0, 1) := ⟨fun _ => ⟨(RJ0, TJ0, 4), tyJ0, rfl, by decide, rfl, Or.inl kt_7_236, fw_0, tyJ0_ok, rfl, fd_0, rfl⟩, fun _ => ⟨Or.inr ⟨rfl, by decide, rfl⟩, kt_7_236⟩⟩
theorem fo_0_15 : am_FO 0 15 (0, 1, 3) := ⟨fun _ => ⟨(RJ0, TJ0, 4), tyJ0, rfl, by decide, rfl, Or.inl kt_7_237, fw_0, tyJ0_ok, rfl, fd_0, rfl⟩, fun _ => ⟨Or.inr ⟨rfl, by decide, rfl⟩, kt_7_237⟩⟩
theorem fo_0_1048 : am_FO 0 1048 (1, 2, 2) := ⟨fun _ => ⟨(RJ4, TJ4, 4), tyJ4, rfl, by decide, rfl, Or.inl kt_1_66, fw_1, tyJ4_ok, rfl, fd_1, rfl⟩, fun h => absurd h (by decide)⟩
theorem fo_2_9 : am_FO 2 9 (2, 1, 1) := ⟨fun _ => ⟨(RJx4a65c, TJx4a65c, 3), tyJx4a65c, rfl, by decide, rfl, Or.inl kt_5_227, fw_2, tyJx4a65c_ok, rfl, fd_2, rfl⟩, fun h => absurd h (by decide)⟩
theorem fo_2_48 : am_FO 2 48 (2, 2, 0) := ⟨fun _ => ⟨(RJx4a65c, TJx4a65c, 3), tyJx4a65c, rfl, by decide, rfl, Or.inl kt_5_228, fw_2, tyJx4a65c_ok, rfl, fd_2, rfl⟩, fun h => absurd h (by decide)⟩
theorem fo_2_63 : am_FO 2 63 (2, 0, 0) := ⟨fun _ => ⟨(RJx4a65c, TJx4a65c, 3), tyJx4a65c, rfl, by decide, rfl, Or.inr (Or.inr ⟨_, kt_5_230, (sg_in5 231 rfl rfl)⟩), fw_2, tyJx4a65c_ok, rfl, fd_2, rfl⟩, fun h => absurd h (by decide)⟩
theorem fo_4_11 : am_FO 4 11 (4, 0, 1) := ⟨fun _ => ⟨(RX1, TX1, 5), tyX1, rfl, by decide, rfl, Or.inl kt_2_123, fw_4, tyX1_ok, rfl, fd_4, rfl⟩, fun h => absurd h (by decide)⟩
theorem fo_4_17 : am_FO 4 17 (4, 1, 1) := ⟨fun _ => ⟨(RX1, TX1, 5), tyX1, rfl, by decide, rfl, Or.inl kt_2_124, fw_4, tyX1_ok, rfl, fd_4, rfl⟩, fun h => absurd h (by decide)⟩
theorem fo_4_20 : am_FO 4 20 (4, 2, 1) := ⟨fun _ => ⟨(RX1, TX1, 5), tyX1, rfl, by decide, rfl, Or.inl kt_2_125, fw_4, tyX1_ok, rfl, fd_4, rfl⟩, fun h => absurd h (by decide)⟩
theorem fo_4_25 : am_FO 4 25 (4, 3, 0) := ⟨fun _ => ⟨(RX1, TX1, 5), tyX1, rfl, by decide, rfl, Or.inl kt_2_126, fw_4, tyX1_ok, rfl, fd_4, rfl⟩, fun h => absurd h (by decide)⟩
theorem fo_4_37 : am_FO 4 37 (4, 4, 0) := ⟨fun _ => ⟨(RX1, TX1, 5), tyX1, rfl, by decide, rfl, Or.inl kt_2_127, fw_4, tyX1_ok, rfl, fd_4, rfl⟩, fun h => absurd h (by decide)⟩
theorem fo_5_9 : am_FO 5 9 (5, 0, 1) := ⟨fun _ => ⟨(RX2, TX2, 13), tyX2, rfl, by decide, rfl, Or.inl kt_1_91, fw_5, tyX2_ok, rfl, fd_5, rfl⟩, fun h => absurd h (by decide)⟩
theorem fo_5_15 : am_FO 5 15 (5, 1, 1) := ⟨fun _ => ⟨(RX2, TX2, 13), tyX2, rfl, by decide, rfl, Or.inl kt_1_94, fw_5, tyX2_ok, rfl, fd_5, rfl⟩, fun h => absurd h (by decide)⟩
theorem fo_5_18 : am_FO 5 18 (5, 2, 1) := ⟨fun _ => ⟨(RX2, TX2, 13), tyX2, rfl, by decide, rfl, Or.inl kt_1_96, fw_5, tyX2_ok, rfl, fd_5, rfl⟩, fun h => absurd h (by decide)⟩
theorem fo_5_21 : am_FO 5 21 (5, 3, 1) := ⟨fun _ => ⟨(RX2, TX2, 13), tyX2, rfl, by decide, rfl, Or.inl kt_1_98, fw_5, tyX2_ok, rfl, fd_5, rfl⟩, fun h => absurd h (by decide)⟩
theorem fo_5_30 : am_FO 5 30 (5, 4, 0) := ⟨fun _ => ⟨(RX2, TX2, 13), tyX2, rfl, by decide, rfl, Or.inl kt_1_101, fw_5, tyX2_ok, rfl, fd_5, rfl⟩, fun h => absurd h (by decide)⟩
theorem fo_5_34 : am_FO 5 34 (5, 5, 0) := ⟨fun _ => ⟨(RX2, TX2, 13), tyX2, rfl, by decide, rfl, Or.inl kt_1_104, fw_5, tyX2_ok, rfl, fd_5, rfl⟩, fun h => absurd h (by decide)⟩
theorem fo_5_37 : am_FO 5 37 (5, 6, 0) := ⟨fun _ => ⟨(RX2, TX2, 13), tyX2, rfl, by decide, rfl, Or.inl kt_1_108, fw_5, tyX2_ok, rfl, fd_5, rfl⟩, fun h => absurd h (by decide)⟩
theorem fo_5_40 : am_FO 5 40 (5, 7, 0) := ⟨fun _ => ⟨(RX2, TX2, 13), tyX2, rfl, by decide, rfl, Or.inl kt_1_111, fw_5, tyX2_ok, rfl, fd_5, rfl⟩, fun h => absurd h (by decide)⟩
theorem fo_5_43 : am_FO 5 43 (5, 8, 0) := ⟨fun _ => ⟨(RX2, TX2, 13), tyX2, rfl, by decide, rfl, Or.inl kt_1_114, fw_5, tyX2_ok, rfl, fd_5, rfl⟩, fun h => absurd h (by decide)⟩
theorem fo_5_46 : am_FO 5 46 (5, 9, 0) := ⟨fun _ => ⟨(RX2, TX2, 13), tyX2, rfl, by decide, rfl, Or.inl kt_1_117, fw_5, tyX2_ok, rfl, fd_5, rfl⟩, fun h => absurd h (by decide)⟩
theorem fo_5_49 : am_FO 5 49 (5, 10, 0) := ⟨fun _ => ⟨(RX2, TX2, 13), tyX2, rfl, by decide, rfl, Or.inl kt_1_120, fw_5, tyX2_ok, rfl, fd_5, rfl⟩, fun h => absurd h (by decide)⟩
theorem fo_5_52 : am_FO 5 52 (5, 11, 0) := ⟨fun _ => ⟨(RX2, TX2, 13), tyX2, rfl, by decide, rfl, Or.inl kt_1_123, fw_5, tyX2_ok, rfl, fd_5, rfl⟩, fun h => absurd h (by decide)⟩
theorem fo_5_55 : am_FO 5 55 (5, 12, 0) := ⟨fun _ => ⟨(RX2, TX2, 13), tyX2, rfl, by decide, rfl, Or.inl kt_1_125, fw_5, tyX2_ok, rfl, fd_5, rfl⟩, fun h => absurd h (by decide)⟩
theorem fo_6_9 : am_FO 6 9 (6, 0, 1) := ⟨fun _ => ⟨(RX3, TX3, 3), tyX3, rfl, by decide, rfl, Or.inl kt_1_211, fw_6, tyX3_ok, rfl, fd_6, rfl⟩, fun h => absurd h (by decide)⟩
theorem fo_6_15 : am_FO 6 15 (6, 1, 1) := ⟨fun _ => ⟨(RX3, TX3, 3), tyX3, rfl, by decide, rfl, Or.inl kt_1_213, fw_6, tyX3_ok, rfl, fd_6, rfl⟩, fun h => absurd h (by decide)⟩
theorem fo_6_18 : am_FO 6 18 (6, 2, 0) := ⟨fun _ => ⟨(RX3, TX3, 3), tyX3, rfl, by decide, rfl, Or.inl kt_1_215, fw_6, tyX3_ok, rfl, fd_6, rfl⟩, fun h => absurd h (by decide)⟩
theorem fo_7_12 : am_FO 7 12 (7, 0, 1) := ⟨fun _ => ⟨(RX4, TX4, 11), tyX4, rfl, by decide, rfl, Or.inl kt_2_80, fw_7, tyX4_ok, rfl, fd_7, rfl⟩, fun h => absurd h (by decide)⟩
theorem fo_7_18 : am_FO 7 18 (7, 2, 1) := ⟨fun _ => ⟨(RX4, TX4, 11), tyX4, rfl, by decide, rfl, Or.inl kt_2_82, fw_7, tyX4_ok, rfl, fd_7, rfl⟩, fun h => absurd h (by decide)⟩
theorem fo_7_22 : am_FO 7 22 (7, 3, 1) := ⟨fun _ => ⟨(RX4, TX4, 11), tyX4, rfl, by decide, rfl, Or.inl kt_2_83, fw_7, tyX4_ok, rfl, fd_7, rfl⟩, fun h => absurd h (by decide)⟩
theorem fo_7_25 : am_FO 7 25 (7, 1, 1) := ⟨fun _ => ⟨(RX4, TX4, 11), tyX4, rfl, by decide, rfl, Or.inl kt_2_81, fw_7, tyX4_ok, rfl, fd_7, rfl⟩, fun h => absurd h (by decide)⟩
theorem fo_7_29 : am_FO 7 29 (7, 9, 0) := ⟨fun _ => ⟨(RX4, TX4, 11), tyX4, rfl, by decide, rfl, Or.inl kt_2_89, fw_7, tyX4_ok, rfl, fd_7, rfl⟩, fun h => absurd h (by decide)⟩
theorem fo_7_33 : am_FO 7 33 (7, 10, 0) := ⟨fun _ => ⟨(RX4, TX4, 11), tyX4, rfl, by decide, rfl, Or.inl kt_2_90, fw_7, tyX4_ok, rfl, fd_7, rfl⟩, fun h => absurd h (by decide)⟩
theorem fo_7_47 : am_FO 7 47 (7, 8, 2) := ⟨fun _ => ⟨(RX4, TX4, 11), tyX4, rfl, by decide, rfl, Or.inl kt_2_88, fw_7, tyX4_ok, rfl, fd_7, rfl⟩, fun h => absurd h (by decide)⟩
theorem fo_7_51 : am_FO 7 51 (7, 6, 2) := ⟨fun _ => ⟨(RX4, TX4, 11), tyX4, rfl, by decide, rfl, Or.inl kt_2_86, fw_7, tyX4_ok, rfl, fd_7, rfl⟩, fun h => absurd h (by decide)⟩
theorem fo_7_77 : am_FO 7 77 (7, 4, 0) := ⟨fun _ => ⟨(RX4, TX4, 11), tyX4, rfl, by decide, rfl, Or.inl kt_2_84, fw_7, tyX4_ok, rfl, fd_7, rfl⟩, fun h => absurd h (by decide)⟩
theorem fo_7_80 : am_FO 7 80 (7, 5, 0) := ⟨fun _ => ⟨(RX4, TX4, 11), tyX4, rfl, by decide, rfl, Or.inl kt_2_85, fw_7, tyX4_ok, rfl, fd_7, rfl⟩, fun h => absurd h (by decide)⟩
theorem fo_7_83 : am_FO 7 83 (7, 7, 2) := ⟨fun _ => ⟨(RX4, TX4, 11), tyX4, rfl, by decide, rfl, Or.inl kt_2_87, fw_7, tyX4_ok, rfl, fd_7, rfl⟩, fun h => absurd h (by decide)⟩
theorem fo_7_117 : am_FO 7 117 (10, 0, 1) := ⟨fun _ => ⟨(RX8, TX8, 14), tyX8, rfl, by decide, rfl, Or.inl kt_1_225, fw_10, tyX8_ok, rfl, fd_10, rfl⟩, fun h => absurd h (by decide)⟩
theorem fo_7_121 : am_FO 7 121 (5, 4, 0) := ⟨fun _ => ⟨(RX2, TX2, 13), tyX2, rfl, by decide, rfl, Or.inl kt_1_103, fw_5, tyX2_ok, rfl, fd_5, rfl⟩, fun h => absurd h (by decide)⟩
theorem fo_7_126 : am_FO 7 126 (5, 5, 0) := ⟨fun _ => ⟨(RX2, TX2, 13), tyX2, rfl, by decide, rfl, Or.inl kt_1_106, fw_5, tyX2_ok, rfl, fd_5, rfl⟩, fun h => absurd h (by decide)⟩
theorem fo_7_158 : am_FO 7 158 (13, 2, 2) := ⟨fun h => absurd rfl h, fun _ => ⟨Or.inl ⟨rfl, by decide, rfl⟩, kt_9_45⟩⟩
theorem fo_7_161 : am_FO 7 161 (13, 1, 2) := ⟨fun h => absurd rfl h, fun _ => ⟨Or.inl ⟨rfl, by decide, rfl⟩, kt_9_46⟩⟩
theorem fo_7_167 : am_FO 7 167 (5, 11, 0) := ⟨fun _ => ⟨(RX2, TX2, 13), tyX2, rfl, by decide, rfl, Or.inl kt_1_124, fw_5, tyX2_ok, rfl, fd_5, rfl⟩, fun h => absurd h (by decide)⟩
theorem fo_7_178 : am_FO 7 178 (5, 6, 0) := ⟨fun _ => ⟨(RX2, TX2, 13), tyX2, rfl, by decide, rfl, Or.inl kt_1_110, fw_5, tyX2_ok, rfl, fd_5, rfl⟩, fun h => absurd h (by decide)⟩
theorem fo_7_181 : am_FO 7 181 (10, 8, 0) := ⟨fun _ => ⟨(RX8, TX8, 14), tyX8, rfl, by decide, rfl, Or.inl kt_2_7, fw_10, tyX8_ok, rfl, fd_10, rfl⟩, fun h => absurd h (by decide)⟩
theorem fo_7_184 : am_FO 7 184 (5, 7, 0) := ⟨fun _ => ⟨(RX2, TX2, 13), tyX2, rfl, by decide, rfl, Or.inl kt_1_112, fw_5, tyX2_ok, rfl, fd_5, rfl⟩, fun h => absurd h (by decide)⟩
theorem fo_7_187 : am_FO 7 187 (5, 8, 0) := ⟨fun _ => ⟨(RX2, TX2, 13), tyX2, rfl, by decide, rfl, Or.inl kt_1_115, fw_5, tyX2_ok, rfl, fd_5, rfl⟩, fun h => absurd h (by decide)⟩
theorem fo_7_190 : am_FO 7 190 (5, 9, 0) := ⟨fun _ => ⟨(RX2, TX2, 13), tyX2, rfl, by decide, rfl, Or.inl kt_1_118, fw_5, tyX2_ok, rfl, fd_5, rfl⟩, fun h => absurd h (by decide)⟩
theorem fo_7_193 : am_FO 7 193 (5, 10, 0) := ⟨fun _ => ⟨(RX2, TX2, 13), tyX2, rfl, by decide, rfl, Or.inl kt_1_121, fw_5, tyX2_ok, rfl, fd_5, rfl⟩, fun h => absurd h (by decide)⟩
theorem fo_7_196 : am_FO 7 196 (10, 9, 0) := ⟨fun _ => ⟨(RX8, TX8, 14), tyX8, rfl, by decide, rfl, Or.inl kt_2_11, fw_10, tyX8_ok, rfl, fd_10, rfl⟩, fun h => absurd h (by decide)⟩
theorem fo_7_224 : am_FO 7 224 (10, 1, 1) := ⟨fun _ => ⟨(RX8, TX8, 14), tyX8, rfl, by decide, rfl, Or.inl kt_1_228, fw_10, tyX8_ok, rfl, fd_10, rfl⟩, fun h => absurd h (by decide)⟩
theorem fo_7_228 : am_FO 7 228 (9, 1, 0) := ⟨fun _ => ⟨(RX7, TX7, 9), tyX7, rfl, by decide, rfl, Or.inl kt_1_165, fw_9, tyX7_ok, rfl, fd_9, rfl⟩, fun h => absurd h (by decide)⟩
theorem fo_7_233 : am_FO 7 233 (9, 2, 2) := ⟨fun _ => ⟨(RX7, TX7, 9), tyX7, rfl, by decide, rfl, Or.inl kt_1_168, fw_9, tyX7_ok, rfl, fd_9, rfl⟩, fun h => absurd h (by decide)⟩
theorem fo_7_239 : am_FO 7 239 (10, 12, 0) := ⟨fun _ => ⟨(RX8, TX8, 14), tyX8, rfl, by decide, rfl, Or.inl kt_2_18, fw_10, tyX8_ok, rfl, fd_10, rfl⟩, fun h => absurd h (by decide)⟩
theorem fo_7_242 : am_FO 7 242 (5, 12, 0) := ⟨fun _ => ⟨(RX2, TX2, 13), tyX2, rfl, by decide, rfl, Or.inl kt_1_126, fw_5, tyX2_ok, rfl, fd_5, rfl⟩, fun h => absurd h (by decide)⟩
theorem fo_7_249 : am_FO 7 249 (5, 3, 1) := ⟨fun _ => ⟨(RX2, TX2, 13), tyX2, rfl, by decide, rfl, Or.inl kt_1_99, fw_5, tyX2_ok, rfl, fd_5, rfl⟩, fun h => absurd h (by decide)⟩
theorem fo_7_252 : am_FO 7 252 (5, 0, 1) := ⟨fun _ => ⟨(RX2, TX2, 13), tyX2, rfl, by decide, rfl, Or.inl kt_1_92, fw_5, tyX2_ok, rfl, fd_5, rfl⟩, fun h => absurd h (by decide)⟩
theorem fo_7_255 : am_FO 7 255 (5, 1, 1) := ⟨fun _ => ⟨(RX2, TX2, 13), tyX2, rfl, by decide, rfl, Or.inl kt_1_95, fw_5, tyX2_ok, rfl, fd_5, rfl⟩, fun h => absurd h (by decide)⟩
theorem fo_7_258 : am_FO 7 258 (5, 2, 1) := ⟨fun _ => ⟨(RX2, TX2, 13), tyX2, rfl, by decide, rfl, Or.inl kt_1_97, fw_5, tyX2_ok, rfl, fd_5, rfl⟩, fun h => absurd h (by decide)⟩
theorem fo_7_261 : am_FO 7 261 (10, 3, 1) := ⟨fun _ => ⟨(RX8, TX8, 14), tyX8, rfl, by decide, rfl, Or.inl kt_1_234, fw_10, tyX8_ok, rfl, fd_10, rfl⟩, fun h => absurd h (by decide)⟩
theorem fo_7_280 : am_FO 7 280 (10, 7, 1) := ⟨fun _ => ⟨(RX8, TX8, 14), tyX8, rfl, by decide, rfl, Or.inl kt_2_4, fw_10, tyX8_ok, rfl, fd_10, rfl⟩, fun h => absurd h (by decide)⟩
theorem fo_7_295 : am_FO 7 295 (10, 5, 1) := ⟨fun _ => ⟨(RX8, TX8, 14), tyX8, rfl, by decide, rfl, Or.inl kt_1_238, fw_10, tyX8_ok, rfl, fd_10, rfl⟩, fun h => absurd h (by decide)⟩
theorem fo_7_301 : am_FO 7 301 (10, 6, 1) := ⟨fun _ => ⟨(RX8, TX8, 14), tyX8, rfl, by decide, rfl, Or.inl kt_2_1, fw_10, tyX8_ok, rfl, fd_10, rfl⟩, fun h => absurd h (by decide)⟩
theorem fo_7_316 : am_FO 7 316 (10, 10, 0) := ⟨fun _ => ⟨(RX8, TX8, 14), tyX8, rfl, by decide, rfl, Or.inl kt_2_14, fw_10, tyX8_ok, rfl, fd_10, rfl⟩, fun h => absurd h (by decide)⟩
theorem fo_8_11 : am_FO 8 11 (8, 0, 1) := ⟨fun _ => ⟨(RX6, TX6, 5), tyX6, rfl, by decide, rfl, Or.inl kt_2_64, fw_8, tyX6_ok, rfl, fd_8, rfl⟩, fun h => absurd h (by decide)⟩
theorem fo_8_17 : am_FO 8 17 (8, 1, 1) := ⟨fun _ => ⟨(RX6, TX6, 5), tyX6, rfl, by decide, rfl, Or.inl kt_2_65, fw_8, tyX6_ok, rfl, fd_8, rfl⟩, fun h => absurd h (by decide)⟩
theorem fo_8_21 : am_FO 8 21 (8, 2, 1) := ⟨fun _ => ⟨(RX6, TX6, 5), tyX6, rfl, by decide, rfl, Or.inl kt_2_66, fw_8, tyX6_ok, rfl, fd_8, rfl⟩, fun h => absurd h (by decide)⟩
theorem fo_8_24 : am_FO 8 24 (8, 3, 0) := ⟨fun _ => ⟨(RX6, TX6, 5), tyX6, rfl, by decide, rfl, Or.inl kt_2_67, fw_8, tyX6_ok, rfl, fd_8, rfl⟩, fun h => absurd h (by decide)⟩
theorem fo_8_28 : am_FO 8 28 (8, 4, 0) := ⟨fun _ => ⟨(RX6, TX6, 5), tyX6, rfl, by decide, rfl, Or.inl kt_2_68, fw_8, tyX6_ok, rfl, fd_8, rfl⟩, fun h => absurd h (by decide)⟩
theorem fo_8_70 : am_FO 8 70 (13, 0, 1) := ⟨fun h => absurd rfl h, fun _ => ⟨Or.inl ⟨rfl, by decide, rfl⟩, kt_9_44⟩⟩
theorem fo_9_9 : am_FO 9 9 (9, 0, 0) := ⟨fun _ => ⟨(RX7, TX7, 9), tyX7, rfl, by decide, rfl, Or.inl kt_1_161, fw_9, tyX7_ok, rfl, fd_9, rfl⟩, fun h => absurd h (by decide)⟩
theorem fo_9_15 : am_FO 9 15 (9, 1, 0) := ⟨fun _ => ⟨(RX7, TX7, 9), tyX7, rfl, by decide, rfl, Or.inl kt_1_164, fw_9, tyX7_ok, rfl, fd_9, rfl⟩, fun h => absurd h (by decide)⟩
theorem fo_9_18 : am_FO 9 18 (9, 2, 2) := ⟨fun _ => ⟨(RX7, TX7, 9), tyX7, rfl, by decide, rfl, Or.inl kt_1_167, fw_9, tyX7_ok, rfl, fd_9, rfl⟩, fun h => absurd h (by decide)⟩
theorem fo_9_22 : am_FO 9 22 (9, 3, 0) := ⟨fun _ => ⟨(RX7, TX7, 9), tyX7, rfl, by decide, rfl, Or.inl kt_1_171, fw_9, tyX7_ok, rfl, fd_9, rfl⟩, fun h => absurd h (by decide)⟩
theorem fo_9_25 : am_FO 9 25 (9, 4, 0) := ⟨fun _ => ⟨(RX7, TX7, 9), tyX7, rfl, by decide, rfl, Or.inl kt_1_174, fw_9, tyX7_ok, rfl, fd_9, rfl⟩, fun h => absurd h (by decide)⟩
theorem fo_9_28 : am_FO 9 28 (9, 5, 0) := ⟨fun _ => ⟨(RX7, TX7, 9), tyX7, rfl, by decide, rfl, Or.inl kt_1_177, fw_9, tyX7_ok, rfl, fd_9, rfl⟩, fun h => absurd h (by decide)⟩
theorem fo_9_31 : am_FO 9 31 (9, 6, 0) := ⟨fun _ => ⟨(RX7, TX7, 9), tyX7, rfl, by decide, rfl, Or.inl kt_1_179, fw_9, tyX7_ok, rfl, fd_9, rfl⟩, fun h => absurd h (by decide)⟩
theorem fo_9_34 : am_FO 9 34 (9, 7, 0) := ⟨fun _ => ⟨(RX7, TX7, 9), tyX7, rfl, by decide, rfl, Or.inl kt_1_182, fw_9, tyX7_ok, rfl, fd_9, rfl⟩, fun h => absurd h (by decide)⟩
theorem fo_9_37 : am_FO 9 37 (9, 8, 0) := ⟨fun _ => ⟨(RX7, TX7, 9), tyX7, rfl, by decide, rfl, Or.inl kt_1_184, fw_9, tyX7_ok, rfl, fd_9, rfl⟩, fun h => absurd h (by decide)⟩
theorem fo_10_12 : am_FO 10 12 (10, 0, 1) := ⟨fun _ => ⟨(RX8, TX8, 14), tyX8, rfl, by decide, rfl, Or.inl kt_1_224, fw_10, tyX8_ok, rfl, fd_10, rfl⟩, fun h => absurd h (by decide)⟩
theorem fo_10_21 : am_FO 10 21 (10, 1, 1) := ⟨fun _ => ⟨(RX8, TX8, 14), tyX8, rfl, by decide, rfl, Or.inl kt_1_227, fw_10, tyX8_ok, rfl, fd_10, rfl⟩, fun h => absurd h (by decide)⟩
theorem fo_10_28 : am_FO 10 28 (10, 2, 1) := ⟨fun _ => ⟨(RX8, TX8, 14), tyX8, rfl, by decide, rfl, Or.inl kt_1_230, fw_10, tyX8_ok, rfl, fd_10, rfl⟩, fun h => absurd h (by decide)⟩
theorem fo_10_32 : am_FO 10 32 (10, 3, 1) := ⟨fun _ => ⟨(RX8, TX8, 14), tyX8, rfl, by decide, rfl, Or.inl kt_1_232, fw_10, tyX8_ok, rfl, fd_10, rfl⟩, fun h => absurd h (by decide)⟩
theorem fo_10_36 : am_FO 10 36 (10, 4, 1) := ⟨fun _ => ⟨(RX8, TX8, 14), tyX8, rfl, by decide, rfl, Or.inl kt_1_235, fw_10, tyX8_ok, rfl, fd_10, rfl⟩, fun h => absurd h (by decide)⟩
theorem fo_10_39 : am_FO 10 39 (10, 5, 1) := ⟨fun _ => ⟨(RX8, TX8, 14), tyX8, rfl, by decide, rfl, Or.inl kt_1_237, fw_10, tyX8_ok, rfl, fd_10, rfl⟩, fun h => absurd h (by decide)⟩
theorem fo_10_42 : am_FO 10 42 (10, 6, 1) := ⟨fun _ => ⟨(RX8, TX8, 14), tyX8, rfl, by decide, rfl, Or.inl kt_2_0, fw_10, tyX8_ok, rfl, fd_10, rfl⟩, fun h => absurd h (by decide)⟩
theorem fo_10_45 : am_FO 10 45 (10, 7, 1) := ⟨fun _ => ⟨(RX8, TX8, 14), tyX8, rfl, by decide, rfl, Or.inl kt_2_3, fw_10, tyX8_ok, rfl, fd_10, rfl⟩, fun h => absurd h (by decide)⟩
theorem fo_10_59 : am_FO 10 59 (10, 8, 0) := ⟨fun _ => ⟨(RX8, TX8, 14), tyX8, rfl, by decide, rfl, Or.inl kt_2_6, fw_10, tyX8_ok, rfl, fd_10, rfl⟩, fun h => absurd h (by decide)⟩
theorem fo_10_63 : am_FO 10 63 (10, 9, 0) := ⟨fun _ => ⟨(RX8, TX8, 14), tyX8, rfl, by decide, rfl, Or.inl kt_2_9, fw_10, tyX8_ok, rfl, fd_10, rfl⟩, fun h => absurd h (by decide)⟩
theorem fo_10_66 : am_FO 10 66 (10, 10, 0) := ⟨fun _ => ⟨(RX8, TX8, 14), tyX8, rfl, by decide, rfl, Or.inl kt_2_12, fw_10, tyX8_ok, rfl, fd_10, rfl⟩, fun h => absurd h (by decide)⟩
theorem fo_10_69 : am_FO 10 69 (10, 11, 0) := ⟨fun _ => ⟨(RX8, TX8, 14), tyX8, rfl, by decide, rfl, Or.inl kt_2_15, fw_10, tyX8_ok, rfl, fd_10, rfl⟩, fun h => absurd h (by decide)⟩
theorem fo_10_72 : am_FO 10 72 (10, 12, 0) := ⟨fun _ => ⟨(RX8, TX8, 14), tyX8, rfl, by decide, rfl, Or.inl kt_2_17, fw_10, tyX8_ok, rfl, fd_10, rfl⟩, fun h => absurd h (by decide)⟩
theorem fo_10_75 : am_FO 10 75 (10, 13, 0) := ⟨fun _ => ⟨(RX8, TX8, 14), tyX8, rfl, by decide, rfl, Or.inl kt_2_20, fw_10, tyX8_ok, rfl, fd_10, rfl⟩, fun h => absurd h (by decide)⟩
theorem fo_10_92 : am_FO 10 92 (5, 4, 0) := ⟨fun _ => ⟨(RX2, TX2, 13), tyX2, rfl, by decide, rfl, Or.inl kt_1_102, fw_5, tyX2_ok, rfl, fd_5, rfl⟩, fun h => absurd h (by decide)⟩
theorem fo_10_95 : am_FO 10 95 (5, 5, 0) := ⟨fun _ => ⟨(RX2, TX2, 13), tyX2, rfl, by decide, rfl, Or.inl kt_1_105, fw_5, tyX2_ok, rfl, fd_5, rfl⟩, fun h => absurd h (by decide)⟩
theorem fo_10_98 : am_FO 10 98 (5, 6, 0) := ⟨fun _ => ⟨(RX2, TX2, 13), tyX2, rfl, by decide, rfl, Or.inl kt_1_109, fw_5, tyX2_ok, rfl, fd_5, rfl⟩, fun h => absurd h (by decide)⟩
theorem fo_10_145 : am_FO 10 145 (9, 3, 0) := ⟨fun _ => ⟨(RX7, TX7, 9), tyX7, rfl, by decide, rfl, Or.inl kt_1_172, fw_9, tyX7_ok, rfl, fd_9, rfl⟩, fun h => absurd h (by decide)⟩
theorem fo_10_148 : am_FO 10 148 (9, 0, 0) := ⟨fun _ => ⟨(RX7, TX7, 9), tyX7, rfl, by decide, rfl, Or.inl kt_1_162, fw_9, tyX7_ok, rfl, fd_9, rfl⟩, fun h => absurd h (by decide)⟩
theorem fo_10_173 : am_FO 10 173 (5, 12, 0) := ⟨fun _ => ⟨(RX2, TX2, 13), tyX2, rfl, by decide, rfl, Or.inl kt_1_127, fw_5, tyX2_ok, rfl, fd_5, rfl⟩, fun h => absurd h (by decide)⟩
theorem fo_10_176 : am_FO 10 176 (5, 3, 1) := ⟨fun _ => ⟨(RX2, TX2, 13), tyX2, rfl, by decide, rfl, Or.inl kt_1_100, fw_5, tyX2_ok, rfl, fd_5, rfl⟩, fun h => absurd h (by decide)⟩
theorem fo_10_186 : am_FO 10 186 (5, 7, 0) := ⟨fun _ => ⟨(RX2, TX2, 13), tyX2, rfl, by decide, rfl, Or.inl kt_1_113, fw_5, tyX2_ok, rfl, fd_5, rfl⟩, fun h => absurd h (by decide)⟩
theorem fo_10_189 : am_FO 10 189 (5, 8, 0) := ⟨fun _ => ⟨(RX2, TX2, 13), tyX2, rfl, by decide, rfl, Or.inl kt_1_116, fw_5, tyX2_ok, rfl, fd_5, rfl⟩, fun h => absurd h (by decide)⟩
theorem fo_10_198 : am_FO 10 198 (5, 10, 0) := ⟨fun _ => ⟨(RX2, TX2, 13), tyX2, rfl, by decide, rfl, Or.inl kt_1_122, fw_5, tyX2_ok, rfl, fd_5, rfl⟩, fun h => absurd h (by decide)⟩
theorem fo_10_204 : am_FO 10 204 (9, 1, 0) := ⟨fun _ => ⟨(RX7, TX7, 9), tyX7, rfl, by decide, rfl, Or.inl kt_1_166, fw_9, tyX7_ok, rfl, fd_9, rfl⟩, fun h => absurd h (by decide)⟩
theorem fo_10_207 : am_FO 10 207 (9, 2, 2) := ⟨fun _ => ⟨(RX7, TX7, 9), tyX7, rfl, by decide, rfl, Or.inl kt_1_169, fw_9, tyX7_ok, rfl, fd_9, rfl⟩, fun h => absurd h (by decide)⟩
theorem fo_10_227 : am_FO 10 227 (5, 9, 0) := ⟨fun _ => ⟨(RX2, TX2, 13), tyX2, rfl, by decide, rfl, Or.inl kt_1_119, fw_5, tyX2_ok, rfl, fd_5, rfl⟩, fun h => absurd h (by decide)⟩
theorem fo_10_230 : am_FO 10 230 (9, 4, 0) := ⟨fun _ => ⟨(RX7, TX7, 9), tyX7, rfl, by decide, rfl, Or.inl kt_1_175, fw_9, tyX7_ok, rfl, fd_9, rfl⟩, fun h => absurd h (by decide)⟩
theorem fo_10_248 : am_FO 10 248 (9, 6, 0) := ⟨fun _ => ⟨(RX7, TX7, 9), tyX7, rfl, by decide, rfl, Or.inl kt_1_180, fw_9, tyX7_ok, rfl, fd_9, rfl⟩, fun h => absurd h (by decide)⟩
theorem fo_10_254 : am_FO 10 254 (5, 0, 1) := ⟨fun _ => ⟨(RX2, TX2, 13), tyX2, rfl, by decide, rfl, Or.inl kt_1_93, fw_5, tyX2_ok, rfl, fd_5, rfl⟩, fun h => absurd h (by decide)⟩
theorem fo_11_9 : am_FO 11 9 (11, 0, 1) := ⟨fun _ => ⟨(RX9, TX9, 8), tyX9, rfl, by decide, rfl, Or.inl kt_2_140, fw_11, tyX9_ok, rfl, fd_11, rfl⟩, fun h => absurd h (by decide)⟩
theorem fo_11_16 : am_FO 11 16 (11, 1, 1) := ⟨fun _ => ⟨(RX9, TX9, 8), tyX9, rfl, by decide, rfl, Or.inl kt_2_141, fw_11, tyX9_ok, rfl, fd_11, rfl⟩, fun h => absurd h (by decide)⟩
theorem fo_11_23 : am_FO 11 23 (11, 2, 1) := ⟨fun _ => ⟨(RX9, TX9, 8), tyX9, rfl, by decide, rfl, Or.inl kt_2_142, fw_11, tyX9_ok, rfl, fd_11, rfl⟩, fun h => absurd h (by decide)⟩
theorem fo_11_27 : am_FO 11 27 (11, 3, 1) := ⟨fun _ => ⟨(RX9, TX9, 8), tyX9, rfl, by decide, rfl, Or.inl kt_2_143, fw_11, tyX9_ok, rfl, fd_11, rfl⟩, fun h => absurd h (by decide)⟩
theorem fo_11_35 : am_FO 11 35 (11, 4, 1) := ⟨fun _ => ⟨(RX9, TX9, 8), tyX9, rfl, by decide, rfl, Or.inl kt_2_144, fw_11, tyX9_ok, rfl, fd_11, rfl⟩, fun h => absurd h (by decide)⟩
theorem fo_11_42 : am_FO 11 42 (11, 5, 1) := ⟨fun _ => ⟨(RX9, TX9, 8), tyX9, rfl, by decide, rfl, Or.inl kt_2_145, fw_11, tyX9_ok, rfl, fd_11, rfl⟩, fun h => absurd h (by decide)⟩
theorem fo_11_46 : am_FO 11 46 (11, 6, 0) := ⟨fun _ => ⟨(RX9, TX9, 8), tyX9, rfl, by decide, rfl, Or.inl kt_2_146, fw_11, tyX9_ok, rfl, fd_11, rfl⟩, fun h => absurd h (by decide)⟩
theorem fo_11_50 : am_FO 11 50 (11, 7, 2) := ⟨fun _ => ⟨(RX9, TX9, 8), tyX9, rfl, by decide, rfl, Or.inl kt_2_147, fw_11, tyX9_ok, rfl, fd_11, rfl⟩, fun h => absurd h (by decide)⟩
theorem fo_11_97 : am_FO 11 97 (10, 0, 1) := ⟨fun _ => ⟨(RX8, TX8, 14), tyX8, rfl, by decide, rfl, Or.inl kt_1_226, fw_10, tyX8_ok, rfl, fd_10, rfl⟩, fun h => absurd h (by decide)⟩
theorem fo_11_106 : am_FO 11 106 (5, 5, 0) := ⟨fun _ => ⟨(RX2, TX2, 13), tyX2, rfl, by decide, rfl, Or.inl kt_1_107, fw_5, tyX2_ok, rfl, fd_5, rfl⟩, fun h => absurd h (by decide)⟩
theorem fo_11_112 : am_FO 11 112 (10, 9, 0) := ⟨fun _ => ⟨(RX8, TX8, 14), tyX8, rfl, by decide, rfl, Or.inl kt_2_10, fw_10, tyX8_ok, rfl, fd_10, rfl⟩, fun h => absurd h (by decide)⟩
theorem fo_11_115 : am_FO 11 115 (10, 10, 0) := ⟨fun _ => ⟨(RX8, TX8, 14), tyX8, rfl, by decide, rfl, Or.inl kt_2_13, fw_10, tyX8_ok, rfl, fd_10, rfl⟩, fun h => absurd h (by decide)⟩
theorem fo_11_138 : am_FO 11 138 (10, 3, 1) := ⟨fun _ => ⟨(RX8, TX8, 14), tyX8, rfl, by decide, rfl, Or.inl kt_1_233, fw_10, tyX8_ok, rfl, fd_10, rfl⟩, fun h => absurd h (by decide)⟩
theorem fo_11_151 : am_FO 11 151 (10, 8, 0) := ⟨fun _ => ⟨(RX8, TX8, 14), tyX8, rfl, by decide, rfl, Or.inl kt_2_8, fw_10, tyX8_ok, rfl, fd_10, rfl⟩, fun h => absurd h (by decide)⟩
theorem fo_11_157 : am_FO 11 157 (10, 1, 1) := ⟨fun _ => ⟨(RX8, TX8, 14), tyX8, rfl, by decide, rfl, Or.inl kt_1_229, fw_10, tyX8_ok, rfl, fd_10, rfl⟩, fun h => absurd h (by decide)⟩
theorem fo_11_161 : am_FO 11 161 (9, 0, 0) := ⟨fun _ => ⟨(RX7, TX7, 9), tyX7, rfl, by decide, rfl, Or.inl kt_1_163, fw_9, tyX7_ok, rfl, fd_9, rfl⟩, fun h => absurd h (by decide)⟩
theorem fo_11_166 : am_FO 11 166 (9, 2, 2) := ⟨fun _ => ⟨(RX7, TX7, 9), tyX7, rfl, by decide, rfl, Or.inl kt_1_170, fw_9, tyX7_ok, rfl, fd_9, rfl⟩, fun h => absurd h (by decide)⟩
theorem fo_11_169 : am_FO 11 169 (9, 3, 0) := ⟨fun _ => ⟨(RX7, TX7, 9), tyX7, rfl, by decide, rfl, Or.inl kt_1_173, fw_9, tyX7_ok, rfl, fd_9, rfl⟩, fun h => absurd h (by decide)⟩
theorem fo_11_172 : am_FO 11 172 (9, 4, 0) := ⟨fun _ => ⟨(RX7, TX7, 9), tyX7, rfl, by decide, rfl, Or.inl kt_1_176, fw_9, tyX7_ok, rfl, fd_9, rfl⟩, fun h => absurd h (by decide)⟩
theorem fo_11_175 : am_FO 11 175 (9, 5, 0) := ⟨fun _ => ⟨(RX7, TX7, 9), tyX7, rfl, by decide, rfl, Or.inl kt_1_178, fw_9, tyX7_ok, rfl, fd_9, rfl⟩, fun h => absurd h (by decide)⟩
theorem fo_11_178 : am_FO 11 178 (9, 6, 0) := ⟨fun _ => ⟨(RX7, TX7, 9), tyX7, rfl, by decide, rfl, Or.inl kt_1_181, fw_9, tyX7_ok, rfl, fd_9, rfl⟩, fun h => absurd h (by decide)⟩
theorem fo_11_181 : am_FO 11 181 (9, 7, 0) := ⟨fun _ => ⟨(RX7, TX7, 9), tyX7, rfl, by decide, rfl, Or.inl kt_1_183, fw_9, tyX7_ok, rfl, fd_9, rfl⟩, fun h => absurd h (by decide)⟩
theorem fo_11_184 : am_FO 11 184 (9, 8, 0) := ⟨fun _ => ⟨(RX7, TX7, 9), tyX7, rfl, by decide, rfl, Or.inl kt_1_185, fw_9, tyX7_ok, rfl, fd_9, rfl⟩, fun h => absurd h (by decide)⟩
theorem fo_11_190 : am_FO 11 190 (10, 4, 1) := ⟨fun _ => ⟨(RX8, TX8, 14), tyX8, rfl, by decide, rfl, Or.inl kt_1_236, fw_10, tyX8_ok, rfl, fd_10, rfl⟩, fun h => absurd h (by decide)⟩
theorem fo_11_193 : am_FO 11 193 (10, 12, 0) := ⟨fun _ => ⟨(RX8, TX8, 14), tyX8, rfl, by decide, rfl, Or.inl kt_2_19, fw_10, tyX8_ok, rfl, fd_10, rfl⟩, fun h => absurd h (by decide)⟩
theorem fo_11_196 : am_FO 11 196 (10, 7, 1) := ⟨fun _ => ⟨(RX8, TX8, 14), tyX8, rfl, by decide, rfl, Or.inl kt_2_5, fw_10, tyX8_ok, rfl, fd_10, rfl⟩, fun h => absurd h (by decide)⟩
theorem fo_11_199 : am_FO 11 199 (10, 11, 0) := ⟨fun _ => ⟨(RX8, TX8, 14), tyX8, rfl, by decide, rfl, Or.inl kt_2_16, fw_10, tyX8_ok, rfl, fd_10, rfl⟩, fun h => absurd h (by decide)⟩
theorem fo_11_202 : am_FO 11 202 (10, 6, 1) := ⟨fun _ => ⟨(RX8, TX8, 14), tyX8, rfl, by decide, rfl, Or.inl kt_2_2, fw_10, tyX8_ok, rfl, fd_10, rfl⟩, fun h => absurd h (by decide)⟩
theorem fo_11_205 : am_FO 11 205 (10, 5, 1) := ⟨fun _ => ⟨(RX8, TX8, 14), tyX8, rfl, by decide, rfl, Or.inl kt_1_239, fw_10, tyX8_ok, rfl, fd_10, rfl⟩, fun h => absurd h (by decide)⟩
theorem fo_11_212 : am_FO 11 212 (10, 2, 1) := ⟨fun _ => ⟨(RX8, TX8, 14), tyX8, rfl, by decide, rfl, Or.inl kt_1_231, fw_10, tyX8_ok, rfl, fd_10, rfl⟩, fun h => absurd h (by decide)⟩
theorem fo_11_216 : am_FO 11 216 (6, 2, 0) := ⟨fun _ => ⟨(RX3, TX3, 3), tyX3, rfl, by decide, rfl, Or.inl kt_1_216, fw_6, tyX3_ok, rfl, fd_6, rfl⟩, fun h => absurd h (by decide)⟩
theorem fo_11_224 : am_FO 11 224 (6, 0, 1) := ⟨fun _ => ⟨(RX3, TX3, 3), tyX3, rfl, by decide, rfl, Or.inl kt_1_212, fw_6, tyX3_ok, rfl, fd_6, rfl⟩, fun h => absurd h (by decide)⟩
theorem fo_11_227 : am_FO 11 227 (6, 1, 1) := ⟨fun _ => ⟨(RX3, TX3, 3), tyX3, rfl, by decide, rfl, Or.inl kt_1_214, fw_6, tyX3_ok, rfl, fd_6, rfl⟩, fun h => absurd h (by decide)⟩
theorem fo_11_296 : am_FO 11 296 (4, 4, 0) := ⟨fun _ => ⟨(RX1, TX1, 5), tyX1, rfl, by decide, rfl, Or.inl kt_2_128, fw_4, tyX1_ok, rfl, fd_4, rfl⟩, fun h => absurd h (by decide)⟩
theorem fo_12_7 : am_FO 12 7 (12, 10, 0) := ⟨fun _ => ⟨(RX10, TX10, 31), tyX10, rfl, by decide, rfl, Or.inl kt_6_18, fw_12, tyX10_ok, rfl, fd_12, rfl⟩, fun h => absurd h (by decide)⟩
theorem fo_12_13 : am_FO 12 13 (12, 19, 0) := ⟨fun _ => ⟨(RX10, TX10, 31), tyX10, rfl, by decide, rfl, Or.inl kt_6_28, fw_12, tyX10_ok, rfl, fd_12, rfl⟩, fun h => absurd h (by decide)⟩
theorem fo_12_16 : am_FO 12 16 (12, 22, 1) := ⟨fun _ => ⟨(RX10, TX10, 31), tyX10, rfl, by decide, rfl, Or.inl kt_6_33, fw_12, tyX10_ok, rfl, fd_12, rfl⟩, fun h => absurd h (by decide)⟩
theorem fo_12_23 : am_FO 12 23 (12, 29, 1) := ⟨fun _ => ⟨(RX10, TX10, 31), tyX10, rfl, by decide, rfl, Or.inl kt_6_47, fw_12, tyX10_ok, rfl, fd_12, rfl⟩, fun h => absurd h (by decide)⟩
theorem fo_12_27 : am_FO 12 27 (12, 30, 1) := ⟨fun _ => ⟨(RX10, TX10, 31), tyX10, rfl, by decide, rfl, Or.inl kt_6_49, fw_12, tyX10_ok, rfl, fd_12, rfl⟩, fun h => absurd h (by decide)⟩
theorem fo_12_31 : am_FO 12 31 (12, 0, 0) := ⟨fun _ => ⟨(RX10, TX10, 31), tyX10, rfl, by decide, rfl, Or.inl kt_5_239, fw_12, tyX10_ok, rfl, fd_12, rfl⟩, fun h => absurd h (by decide)⟩
theorem fo_12_34 : am_FO 12 34 (12, 1, 0) := ⟨fun _ => ⟨(RX10, TX10, 31), tyX10, rfl, by decide, rfl, Or.inl kt_6_1, fw_12, tyX10_ok, rfl, fd_12, rfl⟩, fun h => absurd h (by decide)⟩
theorem fo_12_37 : am_FO 12 37 (12, 2, 0) := ⟨fun _ => ⟨(RX10, TX10, 31), tyX10, rfl, by decide, rfl, Or.inl kt_6_3, fw_12, tyX10_ok, rfl, fd_12, rfl⟩, fun h => absurd h (by decide)⟩
theorem fo_12_40 : am_FO 12 40 (12, 3, 0) := ⟨fun _ => ⟨(RX10, TX10, 31), tyX10, rfl, by decide, rfl, Or.inl kt_6_5, fw_12, tyX10_ok, rfl, fd_12, rfl⟩, fun h => absurd h (by decide)⟩
theorem fo_12_43 : am_FO 12 43 (12, 4, 0) := ⟨fun _ => ⟨(RX10, TX10, 31), tyX10, rfl, by decide, rfl, Or.inl kt_6_8, fw_12, tyX10_ok, rfl, fd_12, rfl⟩, fun h => absurd h (by decide)⟩
theorem fo_12_46 : am_FO 12 46 (12, 5, 0) := ⟨fun _ => ⟨(RX10, TX10, 31), tyX10, rfl, by decide, rfl, Or.inl kt_6_10, fw_12, tyX10_ok, rfl, fd_12, rfl⟩, fun h => absurd h (by decide)⟩
theorem fo_12_49 : am_FO 12 49 (12, 6, 0) := ⟨fun _ => ⟨(RX10, TX10, 31), tyX10, rfl, by decide, rfl, Or.inl kt_6_12, fw_12, tyX10_ok, rfl, fd_12, rfl⟩, fun h => absurd h (by decide)⟩
theorem fo_12_52 : am_FO 12 52 (12, 7, 0) := ⟨fun _ => ⟨(RX10, TX10, 31), tyX10, rfl, by decide, rfl, Or.inl kt_6_14, fw_12, tyX10_ok, rfl, fd_12, rfl⟩, fun h => absurd h (by decide)⟩
theorem fo_12_55 : am_FO 12 55 (12, 8, 0) := ⟨fun _ => ⟨(RX10, TX10, 31), tyX10, rfl, by decide, rfl, Or.inl kt_6_15, fw_12, tyX10_ok, rfl, fd_12, rfl⟩, fun h => absurd h (by decide)⟩
theorem fo_12_58 : am_FO 12 58 (12, 9, 0) := ⟨fun _ => ⟨(RX10, TX10, 31), tyX10, rfl, by decide, rfl, Or.inl kt_6_17, fw_12, tyX10_ok, rfl, fd_12, rfl⟩, fun h => absurd h (by decide)⟩
theorem fo_12_61 : am_FO 12 61 (12, 11, 0) := ⟨fun _ => ⟨(RX10, TX10, 31), tyX10, rfl, by decide, rfl, Or.inl kt_6_20, fw_12, tyX10_ok, rfl, fd_12, rfl⟩, fun h => absurd h (by decide)⟩
theorem fo_12_64 : am_FO 12 64 (12, 12, 0) := ⟨fun _ => ⟨(RX10, TX10, 31), tyX10, rfl, by decide, rfl, Or.inl kt_6_21, fw_12, tyX10_ok, rfl, fd_12, rfl⟩, fun h => absurd h (by decide)⟩
theorem fo_12_67 : am_FO 12 67 (12, 13, 0) := ⟨fun _ => ⟨(RX10, TX10, 31), tyX10, rfl, by decide, rfl, Or.inl kt_6_22, fw_12, tyX10_ok, rfl, fd_12, rfl⟩, fun h => absurd h (by decide)⟩
theorem fo_12_70 : am_FO 12 70 (12, 14, 0) := ⟨fun _ => ⟨(RX10, TX10, 31), tyX10, rfl, by decide, rfl, Or.inl kt_6_23, fw_12, tyX10_ok, rfl, fd_12, rfl⟩, fun h => absurd h (by decide)⟩
theorem fo_12_73 : am_FO 12 73 (12, 15, 0) := ⟨fun _ => ⟨(RX10, TX10, 31), tyX10, rfl, by decide, rfl, Or.inl kt_6_24, fw_12, tyX10_ok, rfl, fd_12, rfl⟩, fun h => absurd h (by decide)⟩
theorem fo_12_76 : am_FO 12 76 (12, 16, 0) := ⟨fun _ => ⟨(RX10, TX10, 31), tyX10, rfl, by decide, rfl, Or.inl kt_6_25, fw_12, tyX10_ok, rfl, fd_12, rfl⟩, fun h => absurd h (by decide)⟩
theorem fo_12_79 : am_FO 12 79 (12, 17, 0) := ⟨fun _ => ⟨(RX10, TX10, 31), tyX10, rfl, by decide, rfl, Or.inl kt_6_26, fw_12, tyX10_ok, rfl, fd_12, rfl⟩, fun h => absurd h (by decide)⟩
theorem fo_12_82 : am_FO 12 82 (12, 18, 0) := ⟨fun _ => ⟨(RX10, TX10, 31), tyX10, rfl, by decide, rfl, Or.inl kt_6_27, fw_12, tyX10_ok, rfl, fd_12, rfl⟩, fun h => absurd h (by decide)⟩
theorem fo_12_85 : am_FO 12 85 (12, 20, 0) := ⟨fun _ => ⟨(RX10, TX10, 31), tyX10, rfl, by decide, rfl, Or.inl kt_6_30, fw_12, tyX10_ok, rfl, fd_12, rfl⟩, fun h => absurd h (by decide)⟩
theorem fo_12_88 : am_FO 12 88 (12, 21, 2) := ⟨fun _ => ⟨(RX10, TX10, 31), tyX10, rfl, by decide, rfl, Or.inl kt_6_32, fw_12, tyX10_ok, rfl, fd_12, rfl⟩, fun h => absurd h (by decide)⟩
theorem fo_12_92 : am_FO 12 92 (12, 23, 1) := ⟨fun _ => ⟨(RX10, TX10, 31), tyX10, rfl, by decide, rfl, Or.inl kt_6_35, fw_12, tyX10_ok, rfl, fd_12, rfl⟩, fun h => absurd h (by decide)⟩
theorem fo_12_101 : am_FO 12 101 (12, 24, 1) := ⟨fun _ => ⟨(RX10, TX10, 31), tyX10, rfl, by decide, rfl, Or.inl kt_6_38, fw_12, tyX10_ok, rfl, fd_12, rfl⟩, fun h => absurd h (by decide)⟩
theorem fo_12_104 : am_FO 12 104 (12, 25, 1) := ⟨fun _ => ⟨(RX10, TX10, 31), tyX10, rfl, by decide, rfl, Or.inl kt_6_40, fw_12, tyX10_ok, rfl, fd_12, rfl⟩, fun h => absurd h (by decide)⟩
theorem fo_12_107 : am_FO 12 107 (12, 26, 1) := ⟨fun _ => ⟨(RX10, TX10, 31), tyX10, rfl, by decide, rfl, Or.inl kt_6_42, fw_12, tyX10_ok, rfl, fd_12, rfl⟩, fun h => absurd h (by decide)⟩
theorem fo_12_110 : am_FO 12 110 (12, 27, 1) := ⟨fun _ => ⟨(RX10, TX10, 31), tyX10, rfl, by decide, rfl, Or.inl kt_6_44, fw_12, tyX10_ok, rfl, fd_12, rfl⟩, fun h => absurd h (by decide)⟩
theorem fo_12_115 : am_FO 12 115 (12, 28, 1) := ⟨fun _ => ⟨(RX10, TX10, 31), tyX10, rfl, by decide, rfl, Or.inl kt_6_46, fw_12, tyX10_ok, rfl, fd_12, rfl⟩, fun h => absurd h (by decide)⟩
theorem fo_13_32 : am_FO 13 32 (12, 0, 0) := ⟨fun _ => ⟨(RX10, TX10, 31), tyX10, rfl, by decide, rfl, Or.inr (Or.inl ⟨by decide, _, (lw_in6 0 rfl)⟩), fw_12, tyX10_ok, rfl, fd_12, rfl⟩, fun h => absurd h (by decide)⟩
theorem fo_13_36 : am_FO 13 36 (12, 1, 0) := ⟨fun _ => ⟨(RX10, TX10, 31), tyX10, rfl, by decide, rfl, Or.inr (Or.inl ⟨by decide, _, (lw_in6 2 rfl)⟩), fw_12, tyX10_ok, rfl, fd_12, rfl⟩, fun h => absurd h (by decide)⟩
theorem fo_13_39 : am_FO 13 39 (12, 2, 0) := ⟨fun _ => ⟨(RX10, TX10, 31), tyX10, rfl, by decide, rfl, Or.inr (Or.inl ⟨by decide, _, (lw_in6 4 rfl)⟩), fw_12, tyX10_ok, rfl, fd_12, rfl⟩, fun h => absurd h (by decide)⟩
theorem fo_13_42 : am_FO 13 42 (12, 3, 0) := ⟨fun _ => ⟨(RX10, TX10, 31), tyX10, rfl, by decide, rfl, Or.inr (Or.inl ⟨by decide, _, (lw_in6 6 rfl)⟩), fw_12, tyX10_ok, rfl, fd_12, rfl⟩, fun h => absurd h (by decide)⟩
theorem fo_13_45 : am_FO 13 45 (12, 4, 0) := ⟨fun _ => ⟨(RX10, TX10, 31), tyX10, rfl, by decide, rfl, Or.inr (Or.inl ⟨by decide, _, (lw_in6 7 rfl)⟩), fw_12, tyX10_ok, rfl, fd_12, rfl⟩, fun h => absurd h (by decide)⟩
theorem fo_13_48 : am_FO 13 48 (12, 5, 0) := ⟨fun _ => ⟨(RX10, TX10, 31), tyX10, rfl, by decide, rfl, Or.inr (Or.inl ⟨by decide, _, (lw_in6 9 rfl)⟩), fw_12, tyX10_ok, rfl, fd_12, rfl⟩, fun h => absurd h (by decide)⟩
theorem fo_13_51 : am_FO 13 51 (12, 6, 0) := ⟨fun _ => ⟨(RX10, TX10, 31), tyX10, rfl, by decide, rfl, Or.inr (Or.inl ⟨by decide, _, (lw_in6 11 rfl)⟩), fw_12, tyX10_ok, rfl, fd_12, rfl⟩, fun h => absurd h (by decide)⟩
theorem fo_13_54 : am_FO 13 54 (12, 7, 0) := ⟨fun _ => ⟨(RX10, TX10, 31), tyX10, rfl, by decide, rfl, Or.inr (Or.inl ⟨by decide, _, (lw_in6 13 rfl)⟩), fw_12, tyX10_ok, rfl, fd_12, rfl⟩, fun h => absurd h (by decide)⟩
theorem fo_13_57 : am_FO 13 57 (12, 8, 0) := ⟨fun _ => ⟨(RX10, TX10, 31), tyX10, rfl, by decide, rfl, Or.inr (Or.inl ⟨by decide, _, (lw_in6 16 rfl)⟩), fw_12, tyX10_ok, rfl, fd_12, rfl⟩, fun h => absurd h (by decide)⟩
theorem fo_13_60 : am_FO 13 60 (12, 11, 0) := ⟨fun _ => ⟨(RX10, TX10, 31), tyX10, rfl, by decide, rfl, Or.inr (Or.inl ⟨by decide, _, (lw_in6 19 rfl)⟩), fw_12, tyX10_ok, rfl, fd_12, rfl⟩, fun h => absurd h (by decide)⟩
theorem fo_13_63 : am_FO 13 63 (12, 21, 2) := ⟨fun _ => ⟨(RX10, TX10, 31), tyX10, rfl, by decide, rfl, Or.inr (Or.inl ⟨by decide, _, (lw_in6 31 rfl)⟩), fw_12, tyX10_ok, rfl, fd_12, rfl⟩, fun h => absurd h (by decide)⟩
theorem fo_13_67 : am_FO 13 67 (12, 23, 1) := ⟨fun _ => ⟨(RX10, TX10, 31), tyX10, rfl, by decide, rfl, Or.inr (Or.inl ⟨by decide, _, (lw_in6 36 rfl)⟩), fw_12, tyX10_ok, rfl, fd_12, rfl⟩, fun h => absurd h (by decide)⟩
theorem fo_13_71 : am_FO 13 71 (12, 26, 1) := ⟨fun _ => ⟨(RX10, TX10, 31), tyX10, rfl, by decide, rfl, Or.inr (Or.inl ⟨by decide, _, (lw_in6 41 rfl)⟩), fw_12, tyX10_ok, rfl, fd_12, rfl⟩, fun h => absurd h (by decide)⟩
theorem fo_13_79 : am_FO 13 79 (12, 24, 1) := ⟨fun _ => ⟨(RX10, TX10, 31), tyX10, rfl, by decide, rfl, Or.inr (Or.inl ⟨by decide, _, (lw_in6 37 rfl)⟩), fw_12, tyX10_ok, rfl, fd_12, rfl⟩, fun h => absurd h (by decide)⟩
theorem fo_13_82 : am_FO 13 82 (12, 25, 1) := ⟨fun _ => ⟨(RX10, TX10, 31), tyX10, rfl, by decide, rfl, Or.inr (Or.inl ⟨by decide, _, (lw_in6 39 rfl)⟩), fw_12, tyX10_ok, rfl, fd_12, rfl⟩, fun h => absurd h (by decide)⟩
theorem fo_13_85 : am_FO 13 85 (12, 27, 1) := ⟨fun _ => ⟨(RX10, TX10, 31), tyX10, rfl, by decide, rfl, Or.inr (Or.inl ⟨by decide, _, (lw_in6 43 rfl)⟩), fw_12, tyX10_ok, rfl, fd_12, rfl⟩, fun h => absurd h (by decide)⟩
theorem fo_13_88 : am_FO 13 88 (12, 28, 1) := ⟨fun _ => ⟨(RX10, TX10, 31), tyX10, rfl, by decide, rfl, Or.inr (Or.inl ⟨by decide, _, (lw_in6 45 rfl)⟩), fw_12, tyX10_ok, rfl, fd_12, rfl⟩, fun h => absurd h (by decide)⟩
theorem fo_13_91 : am_FO 13 91 (12, 29, 1) := ⟨fun _ => ⟨(RX10, TX10, 31), tyX10, rfl, by decide, rfl, Or.inr (Or.inl ⟨by decide, _, (lw_in6 48 rfl)⟩), fw_12, tyX10_ok, rfl, fd_12, rfl⟩, fun h => absurd h (by decide)⟩
theorem fo_13_101 : am_FO 13 101 (12, 19, 0) := ⟨fun _ => ⟨(RX10, TX10, 31), tyX10, rfl, by decide, rfl, Or.inr (Or.inl ⟨by decide, _, (lw_in6 29 rfl)⟩), fw_12, tyX10_ok, rfl, fd_12, rfl⟩, fun h => absurd h (by decide)⟩
theorem fo_13_104 : am_FO 13 104 (12, 22, 1) := ⟨fun _ => ⟨(RX10, TX10, 31), tyX10, rfl, by decide, rfl, Or.inr (Or.inl ⟨by decide, _, (lw_in6 34 rfl)⟩), fw_12, tyX10_ok, rfl, fd_12, rfl⟩, fun h => absurd h (by decide)⟩
theorem fo_16_15 : am_FO 16 15 (1, 0, 1) := ⟨fun _ => ⟨(RJ4, TJ4, 4), tyJ4, rfl, by decide, rfl, Or.inl kt_1_64, fw_1, tyJ4_ok, rfl, fd_1, rfl⟩, fun h => absurd h (by decide)⟩
theorem fo_16_22 : am_FO 16 22 (1, 1, 3) := ⟨fun _ => ⟨(RJ4, TJ4, 4), tyJ4, rfl, by decide, rfl, Or.inl kt_1_65, fw_1, tyJ4_ok, rfl, fd_1, rfl⟩, fun h => absurd h (by decide)⟩
theorem fo_16_79 : am_FO 16 79 (1, 3, 0) := ⟨fun _ => ⟨(RJ4, TJ4, 4), tyJ4, rfl, by decide, rfl, Or.inl kt_1_67, fw_1, tyJ4_ok, rfl, fd_1, rfl⟩, fun h => absurd h (by decide)⟩
theorem fo_20_7 : am_FO 20 7 (13, 3, 0) := ⟨fun h => absurd rfl h, fun _ => ⟨Or.inl ⟨rfl, by decide, rfl⟩, kt_9_47⟩⟩
theorem fo_27_7 : am_FO 27 7 (2, 0, 0) := ⟨fun _ => ⟨(RJx4a65c, TJx4a65c, 3), tyJx4a65c, rfl, by decide, rfl, Or.inl kt_5_229, fw_2, tyJx4a65c_ok, rfl, fd_2, rfl⟩, fun h => absurd h (by decide)⟩
theorem fo_all_0 : ∀ e ∈ am_F_0, am_FO 0 e.1 e.2 := List.forall_mem_cons.mpr ⟨fo_0_9, List.forall_mem_cons.mpr ⟨fo_0_15, List.forall_mem_cons.mpr ⟨fo_0_1048, (fun _ h => by cases h)⟩⟩⟩
theorem fo_all_2 : ∀ e ∈ am_F_2, am_FO 2 e.1 e.2 := List.forall_mem_cons.mpr ⟨fo_2_9, List.forall_mem_cons.mpr ⟨fo_2_48, List.forall_mem_cons.mpr ⟨fo_2_63, (fun _ h => by cases h)⟩⟩⟩
theorem fo_all_4 : ∀ e ∈ am_F_4, am_FO 4 e.1 e.2 := List.forall_mem_cons.mpr ⟨fo_4_11, List.forall_mem_cons.mpr ⟨fo_4_17, List.forall_mem_cons.mpr ⟨fo_4_20, List.forall_mem_cons.mpr ⟨fo_4_25, List.forall_mem_cons.mpr ⟨fo_4_37, (fun _ h => by cases h)⟩⟩⟩⟩⟩
theorem fo_all_5 : ∀ e ∈ am_F_5, am_FO 5 e.1 e.2 := List.forall_mem_cons.mpr ⟨fo_5_9, List.forall_mem_cons.mpr ⟨fo_5_15, List.forall_mem_cons.mpr ⟨fo_5_18, List.forall_mem_cons.mpr ⟨fo_5_21, List.forall_mem_cons.mpr ⟨fo_5_30, List.forall_mem_cons.mpr ⟨fo_5_34, List.forall_mem_cons.mpr ⟨fo_5_37, List.forall_mem_cons.mpr ⟨fo_5_40, List.forall_mem_cons.mpr ⟨fo_5_43, List.forall_mem_cons.mpr ⟨fo_5_46, List.forall_mem_cons.mpr ⟨fo_5_49, List.forall_mem_cons.mpr ⟨fo_5_52, List.forall_mem_cons.mpr ⟨fo_5_55, (fun _ h => by cases h)⟩⟩⟩⟩⟩⟩⟩⟩⟩⟩⟩⟩⟩
theorem fo_all_6 : ∀ e ∈ am_F_6, am_FO 6 e.1 e.2 := List.forall_mem_cons.mpr ⟨fo_6_9, List.forall_mem_cons.mpr ⟨fo_6_15, List.forall_mem_cons.mpr ⟨fo_6_18, (fun _ h => by cases h)⟩⟩⟩
theorem fo_all_7 : ∀ e ∈ am_F_7, am_FO 7 e.1 e.2 := List.forall_mem_cons.mpr ⟨fo_7_12, List.forall_mem_cons.mpr ⟨fo_7_18, List.forall_mem_cons.mpr ⟨fo_7_22, List.forall_mem_cons.mpr ⟨fo_7_25, List.forall_mem_cons.mpr ⟨fo_7_29, List.forall_mem_cons.mpr ⟨fo_7_33, List.forall_mem_cons.mpr ⟨fo_7_47, List.forall_mem_cons.mpr ⟨fo_7_51, List.forall_mem_cons.mpr ⟨fo_7_77, List.forall_mem_cons.mpr ⟨fo_7_80, List.forall_mem_cons.mpr ⟨fo_7_83, List.forall_mem_cons.mpr ⟨fo_7_117, List.forall_mem_cons.mpr ⟨fo_7_121, List.forall_mem_cons.mpr ⟨fo_7_126, List.forall_mem_cons.mpr ⟨fo_7_158, List.forall_mem_cons.mpr ⟨fo_7_161, List.forall_mem_cons.mpr ⟨fo_7_167, List.forall_mem_cons.mpr ⟨fo_7_178, List.forall_mem_cons.mpr ⟨fo_7_181, List.forall_mem_cons.mpr ⟨fo_7_184, List.forall_mem_cons.mpr ⟨fo_7_187, List.forall_mem_cons.mpr ⟨fo_7_190, List.forall_mem_cons.mpr ⟨fo_7_193, List.forall_mem_cons.mpr ⟨fo_7_196, List.forall_mem_cons.mpr ⟨fo_7_224, List.forall_mem_cons.mpr ⟨fo_7_228, List.forall_mem_cons.mpr ⟨fo_7_233, List.forall_mem_cons.mpr ⟨fo_7_239, List.forall_mem_cons.mpr ⟨fo_7_242, List.forall_mem_cons.mpr ⟨fo_7_249, List.forall_mem_cons.mpr ⟨fo_7_252, List.forall_mem_cons.mpr ⟨fo_7_255, List.forall_mem_cons.mpr ⟨fo_7_258, List.forall_mem_cons.mpr ⟨fo_7_261, List.forall_mem_cons.mpr ⟨fo_7_280, List.forall_mem_cons.mpr ⟨fo_7_295, List.forall_mem_cons.mpr ⟨fo_7_301, List.forall_mem_cons.mpr ⟨fo_7_316, (fun _ h => by cases h)⟩⟩⟩⟩⟩⟩⟩⟩⟩⟩⟩⟩⟩⟩⟩⟩⟩⟩⟩⟩⟩⟩⟩⟩⟩⟩⟩⟩⟩⟩⟩⟩⟩⟩⟩⟩⟩⟩
theorem fo_all_8 : ∀ e ∈ am_F_8, am_FO 8 e.1 e.2 := List.forall_mem_cons.mpr ⟨fo_8_11, List.forall_mem_cons.mpr ⟨fo_8_17, List.forall_mem_cons.mpr ⟨fo_8_21, List.forall_mem_cons.mpr ⟨fo_8_24, List.forall_mem_cons.mpr ⟨fo_8_28, List.forall_mem_cons.mpr ⟨fo_8_70, (fun _ h => by cases h)⟩⟩⟩⟩⟩⟩
theorem fo_all_9 : ∀ e ∈ am_F_9, am_FO 9 e.1 e.2 := List.forall_mem_cons.mpr ⟨fo_9_9, List.forall_mem_cons.mpr ⟨fo_9_15, List.forall_mem_cons.mpr ⟨fo_9_18, List.forall_mem_cons.mpr ⟨fo_9_22, List.forall_mem_cons.mpr ⟨fo_9_25, List.forall_mem_cons.mpr ⟨fo_9_28, List.forall_mem_cons.mpr ⟨fo_9_31, List.forall_mem_cons.mpr ⟨fo_9_34, List.forall_mem_cons.mpr ⟨fo_9_37, (fun _ h => by cases h)⟩⟩⟩⟩⟩⟩⟩⟩⟩
theorem fo_all_10 : ∀ e ∈ am_F_10, am_FO 10 e.1 e.2 := List.forall_mem_cons.mpr ⟨fo_10_12, List.forall_mem_cons.mpr ⟨fo_10_21, List.forall_mem_cons.mpr ⟨fo_10_28, List.forall_mem_cons.mpr ⟨fo_10_32, List.forall_mem_cons.mpr ⟨fo_10_36, List.forall_mem_cons.mpr ⟨fo_10_39, List.forall_mem_cons.mpr ⟨fo_10_42, List.forall_mem_cons.mpr ⟨fo_10_45, List.forall_mem_cons.mpr ⟨fo_10_59, List.forall_mem_cons.mpr ⟨fo_10_63, List.forall_mem_cons.mpr ⟨fo_10_66, List.forall_mem_cons.mpr ⟨fo_10_69, List.forall_mem_cons.mpr ⟨fo_10_72, List.forall_mem_cons.mpr ⟨fo_10_75, List.forall_mem_cons.mpr ⟨fo_10_92, List.forall_mem_cons.mpr ⟨fo_10_95, List.forall_mem_cons.mpr ⟨fo_10_98, List.forall_mem_cons.mpr ⟨fo_10_145, List.forall_mem_cons.mpr ⟨fo_10_148, List.forall_mem_cons.mpr ⟨fo_10_173, List.forall_mem_cons.mpr ⟨fo_10_176, List.forall_mem_cons.mpr ⟨fo_10_186, List.forall_mem_cons.mpr ⟨fo_10_189, List.forall_mem_cons.mpr ⟨fo_10_198, List.forall_mem_cons.mpr ⟨fo_10_204, List.forall_mem_cons.mpr ⟨fo_10_207, List.forall_mem_cons.mpr ⟨fo_10_227, List.forall_mem_cons.mpr ⟨fo_10_230, List.forall_mem_cons.mpr ⟨fo_10_248, List.forall_mem_cons.mpr ⟨fo_10_254, (fun _ h => by cases h)⟩⟩⟩⟩⟩⟩⟩⟩⟩⟩⟩⟩⟩⟩⟩⟩⟩⟩⟩⟩⟩⟩⟩⟩⟩⟩⟩⟩⟩⟩
theorem fo_all_11 : ∀ e ∈ am_F_11, am_FO 11 e.1 e.2 := List.forall_mem_cons.mpr ⟨fo_11_9, List.forall_mem_cons.mpr ⟨fo_11_16, List.forall_mem_cons.mpr ⟨fo_11_23, List.forall_mem_cons.mpr ⟨fo_11_27, List.forall_mem_cons.mpr ⟨fo_11_35, List.forall_mem_cons.mpr ⟨fo_11_42, List.forall_mem_cons.mpr ⟨fo_11_46, List.forall_mem_cons.mpr ⟨fo_11_50, List.forall_mem_cons.mpr ⟨fo_11_97, List.forall_mem_cons.mpr ⟨fo_11_106, List.forall_mem_cons.mpr ⟨fo_11_112, List.forall_mem_cons.mpr ⟨fo_11_115, List.forall_mem_cons.mpr ⟨fo_11_138, List.forall_mem_cons.mpr ⟨fo_11_151, List.forall_mem_cons.mpr ⟨fo_11_157, List.forall_mem_cons.mpr ⟨fo_11_161, List.forall_mem_cons.mpr ⟨fo_11_166, List.forall_mem_cons.mpr ⟨fo_11_169, List.forall_mem_cons.mpr ⟨fo_11_172, List.forall_mem_cons.mpr ⟨fo_11_175, List.forall_mem_cons.mpr ⟨fo_11_178, List.forall_mem_cons.mpr ⟨fo_11_181, List.forall_mem_cons.mpr ⟨fo_11_184, List.forall_mem_cons.mpr ⟨fo_11_190, List.forall_mem_cons.mpr ⟨fo_11_193, List.forall_mem_cons.mpr ⟨fo_11_196, List.forall_mem_cons.mpr ⟨fo_11_199, List.forall_mem_cons.mpr ⟨fo_11_202, List.forall_mem_cons.mpr ⟨fo_11_205, List.forall_mem_cons.mpr ⟨fo_11_212, List.forall_mem_cons.mpr ⟨fo_11_216, List.forall_mem_cons.mpr ⟨fo_11_224, List.forall_mem_cons.mpr ⟨fo_11_227, List.forall_mem_cons.mpr ⟨fo_11_296, (fun _ h => by cases h)⟩⟩⟩⟩⟩⟩⟩⟩⟩⟩⟩⟩⟩⟩⟩⟩⟩⟩⟩⟩⟩⟩⟩⟩⟩⟩⟩⟩⟩⟩⟩⟩⟩⟩
theorem fo_all_12 : ∀ e ∈ am_F_12, am_FO 12 e.1 e.2 := List.forall_mem_cons.mpr ⟨fo_12_7, List.forall_mem_cons.mpr ⟨fo_12_13, List.forall_mem_cons.mpr ⟨fo_12_16, List.forall_mem_cons.mpr ⟨fo_12_23, List.forall_mem_cons.mpr ⟨fo_12_27, List.forall_mem_cons.mpr ⟨fo_12_31, List.forall_mem_cons.mpr ⟨fo_12_34, List.forall_mem_cons.mpr ⟨fo_12_37, List.forall_mem_cons.mpr ⟨fo_12_40, List.forall_mem_cons.mpr ⟨fo_12_43, List.forall_mem_cons.mpr ⟨fo_12_46, List.forall_mem_cons.mpr ⟨fo_12_49, List.forall_mem_cons.mpr ⟨fo_12_52, List.forall_mem_cons.mpr ⟨fo_12_55, List.forall_mem_cons.mpr ⟨fo_12_58, List.forall_mem_cons.mpr ⟨fo_12_61, List.forall_mem_cons.mpr ⟨fo_12_64, List.forall_mem_cons.mpr ⟨fo_12_67, List.forall_mem_cons.mpr ⟨fo_12_70, List.forall_mem_cons.mpr ⟨fo_12_73, List.forall_mem_cons.mpr ⟨fo_12_76, List.forall_mem_cons.mpr ⟨fo_12_79, List.forall_mem_cons.mpr ⟨fo_12_82, List.forall_mem_cons.mpr ⟨fo_12_85, List.forall_mem_cons.mpr ⟨fo_12_88, List.forall_mem_cons.mpr ⟨fo_12_92, List.forall_mem_cons.mpr ⟨fo_12_101, List.forall_mem_cons.mpr ⟨fo_12_104, List.forall_mem_cons.mpr ⟨fo_12_107, List.forall_mem_cons.mpr ⟨fo_12_110, List.forall_mem_cons.mpr ⟨fo_12_115, (fun _ h => by cases h)⟩⟩⟩⟩⟩⟩⟩⟩⟩⟩⟩⟩⟩⟩⟩⟩⟩⟩⟩⟩⟩⟩⟩⟩⟩⟩⟩⟩⟩⟩⟩
theorem fo_all_13 : ∀ e ∈ am_F_13, am_FO 13 e.1 e.2 := List.forall_mem_cons.mpr ⟨fo_13_32, List.forall_mem_cons.mpr ⟨fo_13_36, List.forall_mem_cons.mpr ⟨fo_13_39, List.forall_mem_cons.mpr ⟨fo_13_42, List.forall_mem_cons.mpr ⟨fo_13_45, List.forall_mem_cons.mpr ⟨fo_13_48, List.forall_mem_cons.mpr ⟨fo_13_51, List.forall_mem_cons.mpr ⟨fo_13_54, List.forall_mem_cons.mpr ⟨fo_13_57, List.forall_mem_cons.mpr ⟨fo_13_60, List.forall_mem_cons.mpr ⟨fo_13_63, List.forall_mem_cons.mpr ⟨fo_13_67, List.forall_mem_cons.mpr ⟨fo_13_71, List.forall_mem_cons.mpr ⟨fo_13_79, List.forall_mem_cons.mpr ⟨fo_13_82, List.forall_mem_cons.mpr ⟨fo_13_85, List.forall_mem_cons.mpr ⟨fo_13_88, List.forall_mem_cons.mpr ⟨fo_13_91, List.forall_mem_cons.mpr ⟨fo_13_101, List.forall_mem_cons.mpr ⟨fo_13_104, (fun _ h => by cases h)⟩⟩⟩⟩⟩⟩⟩⟩⟩⟩⟩⟩⟩⟩⟩⟩⟩⟩⟩⟩
theorem fo_all_16 : ∀ e ∈ am_F_16, am_FO 16 e.1 e.2 := List.forall_mem_cons.mpr ⟨fo_16_15, List.forall_mem_cons.mpr ⟨fo_16_22, List.forall_mem_cons.mpr ⟨fo_16_79, (fun _ h => by cases h)⟩⟩⟩
theorem fo_all_20 : ∀ e ∈ am_F_20, am_FO 20 e.1 e.2 := List.forall_mem_cons.mpr ⟨fo_20_7, (fun _ h => by cases h)⟩
theorem fo_all_27 : ∀ e ∈ am_F_27, am_FO 27 e.1 e.2 := List.forall_mem_cons.mpr ⟨fo_27_7, (fun _ h => by cases h)⟩
theorem fo_all : ∀ own k v, am_F own k = some v → am_FO own k v := by
  intro own k v h
  unfold am_F at h
  split at h
  · next l hl =>
    have h1 := am_lk_mem hl
    have h2 := am_lk_mem h
    simp only [List.mem_cons, List.not_mem_nil, or_false, Prod.mk.injEq] at h1
    rcases h1 with ⟨rfl, rfl⟩ | ⟨rfl, rfl⟩ | ⟨rfl, rfl⟩ | ⟨rfl, rfl⟩ | ⟨rfl, rfl⟩ | ⟨rfl, rfl⟩ | ⟨rfl, rfl⟩ | ⟨rfl, rfl⟩ | ⟨rfl, rfl⟩ | ⟨rfl, rfl⟩ | ⟨rfl, rfl⟩ | ⟨rfl, rfl⟩ | ⟨rfl, rfl⟩ | ⟨rfl, rfl⟩ | ⟨rfl, rfl⟩
    · exact fo_all_0 _ h2
    · exact fo_all_2 _ h2
    · exact fo_all_4 _ h2
    · exact fo_all_5 _ h2
    · exact fo_all_6 _ h2
    · exact fo_all_7 _ h2
    · exact fo_all_8 _ h2
    · exact fo_all_9 _ h2
    · exact fo_all_10 _ h2
    · exact fo_all_11 _ h2
    · exact fo_all_12 _ h2
    · exact fo_all_13 _ h2
    · exact fo_all_16 _ h2
    · exact fo_all_20 _ h2
    · exact fo_all_27 _ h2
  · cases h
def am_NQ (own k : Nat) (v : Nat × Nat × Nat) : Prop := v.1 = 0 → am_NO own k v.2.1
theorem no_1_18 : am_NQ 1 18 (0, 0, 0) := fun _ => ⟨(RJ0, TJ0, 4), tyJ0, rfl, rfl, kt_7_194, kt_7_195, kt_1_4, fw_0, tyJ0_ok, by decide +kernel⟩
theorem no_4_9 : am_NQ 4 9 (0, 10, 0) := fun _ => ⟨(RX8, TX8, 14), tyX8, rfl, rfl, kt_2_120, kt_1_80, kt_1_6, fw_10, tyX8_ok, by decide +kernel⟩
theorem no_7_9 : am_NQ 7 9 (0, 8, 0) := fun _ => ⟨(RX6, TX6, 5), tyX6, rfl, rfl, kt_2_56, kt_2_57, kt_1_11, fw_8, tyX6_ok, by decide +kernel⟩
theorem no_10_9 : am_NQ 10 9 (0, 5, 0) := fun _ => ⟨(RX2, TX2, 13), tyX2, rfl, rfl, kt_1_85, kt_1_86, kt_1_7, fw_5, tyX2_ok, by decide +kernel⟩
theorem no_10_18 : am_NQ 10 18 (0, 9, 0) := fun _ => ⟨(RX7, TX7, 9), tyX7, rfl, rfl, kt_1_155, kt_1_156, kt_1_8, fw_9, tyX7_ok, by decide +kernel⟩
theorem no_10_25 : am_NQ 10 25 (0, 6, 0) := fun _ => ⟨(RX3, TX3, 3), tyX3, rfl, rfl, kt_1_205, kt_1_206, kt_1_9, fw_6, tyX3_ok, by decide +kernel⟩
theorem no_11_13 : am_NQ 11 13 (0, 1, 0) := fun _ => ⟨(RJ4, TJ4, 4), tyJ4, rfl, rfl, kt_1_46, kt_1_47, kt_1_3, fw_1, tyJ4_ok, by decide +kernel⟩
theorem no_11_20 : am_NQ 11 20 (0, 10, 0) := fun _ => ⟨(RX8, TX8, 14), tyX8, rfl, rfl, kt_1_79, kt_1_80, kt_1_6, fw_10, tyX8_ok, by decide +kernel⟩
theorem no_11_30 : am_NQ 11 30 (0, 7, 0) := fun _ => ⟨(RX4, TX4, 11), tyX4, rfl, rfl, kt_2_50, kt_2_51, kt_1_10, fw_7, tyX4_ok, by decide +kernel⟩
theorem no_11_39 : am_NQ 11 39 (0, 4, 0) := fun _ => ⟨(RX1, TX1, 5), tyX1, rfl, rfl, kt_2_114, kt_2_115, kt_1_12, fw_4, tyX1_ok, by decide +kernel⟩
theorem no_11_62 : am_NQ 11 62 (1, 0, 1) := fun h => by cases h
theorem no_11_73 : am_NQ 11 73 (1, 0, 2) := fun h => by cases h
theorem no_11_291 : am_NQ 11 291 (1, 0, 0) := fun h => by cases h
theorem no_12_20 : am_NQ 12 20 (0, 2, 0) := fun _ => ⟨(RJx4a65c, TJx4a65c, 3), tyJx4a65c, rfl, rfl, kt_5_213, kt_5_214, kt_1_16, fw_2, tyJx4a65c_ok, by decide +kernel⟩
theorem no_13_14 : am_NQ 13 14 (0, 11, 0) := fun _ => ⟨(RX9, TX9, 8), tyX9, rfl, rfl, kt_1_38, kt_1_39, kt_1_1, fw_11, tyX9_ok, by decide +kernel⟩
theorem no_13_25 : am_NQ 13 25 (0, 12, 0) := fun _ => ⟨(RX10, TX10, 31), tyX10, rfl, rfl, kt_5_207, kt_5_208, kt_1_13, fw_12, tyX10_ok, by decide +kernel⟩
theorem no_13_107 : am_NQ 13 107 (0, 1, 0) := fun _ => ⟨(RJ4, TJ4, 4), tyJ4, rfl, rfl, kt_6_175, kt_1_47, kt_1_3, fw_1, tyJ4_ok, by decide +kernel⟩
theorem no_all_1 : ∀ e ∈ am_N_1, am_NQ 1 e.1 e.2 := List.forall_mem_cons.mpr ⟨no_1_18, (fun _ h => by cases h)⟩
theorem no_all_4 : ∀ e ∈ am_N_4, am_NQ 4 e.1 e.2 := List.forall_mem_cons.mpr ⟨no_4_9, (fun _ h => by cases h)⟩
theorem no_all_7 : ∀ e ∈ am_N_7, am_NQ 7 e.1 e.2 := List.forall_mem_cons.mpr ⟨no_7_9, (fun _ h => by cases h)⟩
theorem no_all_10 : ∀ e ∈ am_N_10, am_NQ 10 e.1 e.2 := List.forall_mem_cons.mpr ⟨no_10_9, List.forall_mem_cons.mpr ⟨no_10_18, List.forall_mem_cons.mpr ⟨no_10_25, (fun _ h => by cases h)⟩⟩⟩
theorem no_all_11 : ∀ e ∈ am_N_11, am_NQ 11 e.1 e.2 := List.forall_mem_cons.mpr ⟨no_11_13, List.forall_mem_cons.mpr ⟨no_11_20, List.forall_mem_cons.mpr ⟨no_11_30, List.forall_mem_cons.mpr ⟨no_11_39, List.forall_mem_cons.mpr ⟨no_11_62, List.forall_mem_cons.mpr ⟨no_11_73, List.forall_mem_cons.mpr ⟨no_11_291, (fun _ h => by cases h)⟩⟩⟩⟩⟩⟩⟩
theorem no_all_12 : ∀ e ∈ am_N_12, am_NQ 12 e.1 e.2 := List.forall_mem_cons.mpr ⟨no_12_20, (fun _ h => by cases h)⟩
theorem no_all_13 : ∀ e ∈ am_N_13, am_NQ 13 e.1 e.2 := List.forall_mem_cons.mpr ⟨no_13_14, List.forall_mem_cons.mpr ⟨no_13_25, List.forall_mem_cons.mpr ⟨no_13_107, (fun _ h => by cases h)⟩⟩⟩
theorem no_all : ∀ own k v, am_N own k = some v → am_NQ own k v := by
  intro own k v h
  unfold am_N at h
  split at h
  · next l hl =>
    have h1 := am_lk_mem hl
    have h2 := am_lk_mem h
    simp only [List.mem_cons, List.not_mem_nil, or_false, Prod.mk.injEq] at h1
    rcases h1 with ⟨rfl, rfl⟩ | ⟨rfl, rfl⟩ | ⟨rfl, rfl⟩ | ⟨rfl, rfl⟩ | ⟨rfl, rfl⟩ | ⟨rfl, rfl⟩ | ⟨rfl, rfl⟩
    · exact no_all_1 _ h2
    · exact no_all_4 _ h2
    · exact no_all_7 _ h2
    · exact no_all_10 _ h2
    · exact no_all_11 _ h2
    · exact no_all_12 _ h2
    · exact no_all_13 _ h2
  · cases h
def am_AQ (own k tg : Nat) : Prop := (tg = 104 ∧ Cond.classLink (am_cn own) k "java/lang/Object" ∈ sg_T) ∨ (tg = 105 ∧ Cond.classLink (am_cn own) k "MoonlitFloor$World" ∈ sg_T) ∨ (tg = 106 ∧ Cond.classLink (am_cn own) k "MoonlitFloor$Sign" ∈ sg_T)
theorem ao_2_7 : am_AQ 2 7 104 := Or.inl ⟨rfl, kt_6_170⟩
theorem ao_4_9 : am_AQ 4 9 105 := Or.inr <| Or.inl ⟨rfl, kt_2_120⟩
theorem ao_8_9 : am_AQ 8 9 106 := Or.inr <| Or.inr ⟨rfl, kt_2_62⟩
theorem ao_all_2 : ∀ e ∈ am_A_2, am_AQ 2 e.1 e.2 := List.forall_mem_cons.mpr ⟨ao_2_7, (fun _ h => by cases h)⟩
theorem ao_all_4 : ∀ e ∈ am_A_4, am_AQ 4 e.1 e.2 := List.forall_mem_cons.mpr ⟨ao_4_9, (fun _ h => by cases h)⟩
theorem ao_all_8 : ∀ e ∈ am_A_8, am_AQ 8 e.1 e.2 := List.forall_mem_cons.mpr ⟨ao_8_9, (fun _ h => by cases h)⟩
theorem ao_all : ∀ own k v, am_A own k = some v → am_AQ own k v := by
  intro own k v h
  unfold am_A at h
  split at h
  · next l hl =>
    have h1 := am_lk_mem hl
    have h2 := am_lk_mem h
    simp only [List.mem_cons, List.not_mem_nil, or_false, Prod.mk.injEq] at h1
    rcases h1 with ⟨rfl, rfl⟩ | ⟨rfl, rfl⟩ | ⟨rfl, rfl⟩
    · exact ao_all_2 _ h2
    · exact ao_all_4 _ h2
    · exact ao_all_8 _ h2
  · cases h
theorem am_T5 : ∀ ty : ArrayType, am_at ty ≠ 998 → Cond.arrayClass (newarray.typeOf ty) ∈ sg_T := by
  intro ty h
  cases ty with
  | int => exact sg_in1 77 rfl rfl
  | byte => exact sg_in1 78 rfl rfl
  | boolean => exact sg_in6 171 rfl rfl
  | long => exact sg_in9 5 rfl rfl
  | _ => exact absurd rfl h
def am_KQ (own k tg : Nat) : Prop := (tg = 100 ∧ Cond.classLink (am_cn own) k "[I" ∈ sg_T) ∨ (tg = 101 ∧ Cond.classLink (am_cn own) k "[B" ∈ sg_T)
theorem ko_12_114 : am_KQ 12 114 100 := Or.inl ⟨rfl, kt_7_124⟩
theorem ko_13_164 : am_KQ 13 164 100 := Or.inl ⟨rfl, kt_7_107⟩
theorem ko_18_311 : am_KQ 18 311 101 := Or.inr ⟨rfl, kt_6_221⟩
theorem ko_all_12 : ∀ e ∈ am_K_12, am_KQ 12 e.1 e.2 := List.forall_mem_cons.mpr ⟨ko_12_114, (fun _ h => by cases h)⟩
theorem ko_all_13 : ∀ e ∈ am_K_13, am_KQ 13 e.1 e.2 := List.forall_mem_cons.mpr ⟨ko_13_164, (fun _ h => by cases h)⟩
theorem ko_all_18 : ∀ e ∈ am_K_18, am_KQ 18 e.1 e.2 := List.forall_mem_cons.mpr ⟨ko_18_311, (fun _ h => by cases h)⟩
theorem ko_all : ∀ own k v, am_K own k = some v → am_KQ own k v := by
  intro own k v h
  unfold am_K at h
  split at h
  · next l hl =>
    have h1 := am_lk_mem hl
    have h2 := am_lk_mem h
    simp only [List.mem_cons, List.not_mem_nil, or_false, Prod.mk.injEq] at h1
    rcases h1 with ⟨rfl, rfl⟩ | ⟨rfl, rfl⟩ | ⟨rfl, rfl⟩
    · exact ko_all_12 _ h2
    · exact ko_all_13 _ h2
    · exact ko_all_18 _ h2
  · cases h
def am_DQ (own k : Nat) (v : Int64) : Prop := Cond.constantLong (am_cn own) k v ∈ sg_T
theorem do_13_397 : am_DQ 13 397 10000 := sg_in8 115 rfl rfl
theorem do_13_399 : am_DQ 13 399 1000 := sg_in8 129 rfl rfl
theorem do_13_401 : am_DQ 13 401 4 := sg_in8 134 rfl rfl
theorem do_13_403 : am_DQ 13 403 2 := sg_in8 135 rfl rfl
theorem do_25_203 : am_DQ 25 203 2 := sg_in8 186 rfl rfl
theorem do_25_205 : am_DQ 25 205 4 := sg_in8 169 rfl rfl
theorem do_25_349 : am_DQ 25 349 3 := sg_in8 164 rfl rfl
theorem do_25_696 : am_DQ 25 696 7 := sg_in8 159 rfl rfl
theorem do_25_702 : am_DQ 25 702 6 := sg_in8 187 rfl rfl
theorem do_25_707 : am_DQ 25 707 5 := sg_in8 199 rfl rfl
theorem do_all_13 : ∀ e ∈ am_D_13, am_DQ 13 e.1 e.2 := List.forall_mem_cons.mpr ⟨do_13_397, List.forall_mem_cons.mpr ⟨do_13_399, List.forall_mem_cons.mpr ⟨do_13_401, List.forall_mem_cons.mpr ⟨do_13_403, (fun _ h => by cases h)⟩⟩⟩⟩
theorem do_all_25 : ∀ e ∈ am_D_25, am_DQ 25 e.1 e.2 := List.forall_mem_cons.mpr ⟨do_25_203, List.forall_mem_cons.mpr ⟨do_25_205, List.forall_mem_cons.mpr ⟨do_25_349, List.forall_mem_cons.mpr ⟨do_25_696, List.forall_mem_cons.mpr ⟨do_25_702, List.forall_mem_cons.mpr ⟨do_25_707, (fun _ h => by cases h)⟩⟩⟩⟩⟩⟩
theorem do_all : ∀ own k v, am_D own k = some v → am_DQ own k v := by
  intro own k v h
  unfold am_D at h
  split at h
  · next l hl =>
    have h1 := am_lk_mem hl
    have h2 := am_lk_mem h
    simp only [List.mem_cons, List.not_mem_nil, or_false, Prod.mk.injEq] at h1
    rcases h1 with ⟨rfl, rfl⟩ | ⟨rfl, rfl⟩
    · exact do_all_13 _ h2
    · exact do_all_25 _ h2
  · cases h
