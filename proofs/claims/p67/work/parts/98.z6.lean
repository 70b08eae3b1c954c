/-! statics and constants that the class files name -/
def am_SO (own k : Nat) (v : AV) : Prop := (∃ x : Fin 37, v = gr' x ∧ Cond.fieldLink (am_cn own) k "MoonlitFloor$Sign" (am_sn.getD x.val "") "LMoonlitFloor$Sign;" ∈ sg_T) ∨ (v = zr 3000 ∧ Cond.fieldLink (am_cn own) k "MoonlitFloor$Tokens" "SIGNS" "[LMoonlitFloor$Sign;" ∈ sg_T) ∨ (v = zr 3001 ∧ Cond.fieldLink (am_cn own) k "MoonlitFloor$1" "$SwitchMap$MoonlitFloor$Sign" "[I" ∈ sg_T) ∨ (v = zr 3002 ∧ Cond.fieldLink (am_cn own) k "java/lang/Integer" "DigitTens" "[B" ∈ sg_T) ∨ (v = zr 3003 ∧ Cond.fieldLink (am_cn own) k "java/lang/Integer" "DigitOnes" "[B" ∈ sg_T) ∨ (v = zr 3005 ∧ Cond.fieldLink (am_cn own) k "java/util/ArrayList" "DEFAULTCAPACITY_EMPTY_ELEMENTDATA" "[Ljava/lang/Object;" ∈ sg_T) ∨ (v = zr 3007 ∧ Cond.fieldLink (am_cn own) k "jdk/internal/util/ArraysSupport" "U" "Ljdk/internal/misc/Unsafe;" ∈ sg_T) ∨ (v = vi 1 ∧ Cond.fieldLink (am_cn own) k "java/lang/String" "COMPACT_STRINGS" "Z" ∈ sg_T) ∨ (v = vi 16 ∧ Cond.fieldLink (am_cn own) k "jdk/internal/misc/Unsafe" "ARRAY_LONG_BASE_OFFSET" "I" ∈ sg_T) ∨ (v = vi 2 ∧ Cond.fieldLink (am_cn own) k "jdk/internal/util/ArraysSupport" "LOG2_ARRAY_INT_INDEX_SCALE" "I" ∈ sg_T) ∨ (v = vi 3 ∧ Cond.fieldLink (am_cn own) k "jdk/internal/util/ArraysSupport" "LOG2_ARRAY_LONG_INDEX_SCALE" "I" ∈ sg_T)
theorem so_0_38 : am_SO 0 38 (vi 1) := Or.inr (Or.inr (Or.inr (Or.inr (Or.inr (Or.inr (Or.inr (Or.inl ⟨rfl, kt_3_57⟩)))))))
theorem so_2_39 : am_SO 2 39 (zr 3005) := Or.inr (Or.inr (Or.inr (Or.inr (Or.inr (Or.inl ⟨rfl, kt_5_225⟩)))))
theorem so_7_93 : am_SO 7 93 (gr' 34) := Or.inl ⟨34, rfl, kt_3_141⟩
theorem so_7_111 : am_SO 7 111 (gr' 0) := Or.inl ⟨0, rfl, kt_3_119⟩
theorem so_7_129 : am_SO 7 129 (gr' 31) := Or.inl ⟨31, rfl, kt_3_151⟩
theorem so_7_132 : am_SO 7 132 (gr' 33) := Or.inl ⟨33, rfl, kt_3_153⟩
theorem so_7_138 : am_SO 7 138 (gr' 36) := Or.inl ⟨36, rfl, kt_3_165⟩
theorem so_7_164 : am_SO 7 164 (gr' 12) := Or.inl ⟨12, rfl, kt_4_167⟩
theorem so_7_170 : am_SO 7 170 (zr 3001) := Or.inr (Or.inr (Or.inl ⟨rfl, kt_3_233⟩))
theorem so_7_218 : am_SO 7 218 (gr' 29) := Or.inl ⟨29, rfl, kt_4_173⟩
theorem so_7_221 : am_SO 7 221 (gr' 30) := Or.inl ⟨30, rfl, kt_4_175⟩
theorem so_7_264 : am_SO 7 264 (gr' 24) := Or.inl ⟨24, rfl, kt_4_35⟩
theorem so_7_267 : am_SO 7 267 (gr' 25) := Or.inl ⟨25, rfl, kt_4_37⟩
theorem so_7_277 : am_SO 7 277 (gr' 13) := Or.inl ⟨13, rfl, kt_4_51⟩
theorem so_7_298 : am_SO 7 298 (gr' 14) := Or.inl ⟨14, rfl, kt_4_53⟩
theorem so_7_304 : am_SO 7 304 (gr' 23) := Or.inl ⟨23, rfl, kt_3_215⟩
theorem so_7_310 : am_SO 7 310 (gr' 22) := Or.inl ⟨22, rfl, kt_3_221⟩
theorem so_7_323 : am_SO 7 323 (gr' 21) := Or.inl ⟨21, rfl, kt_3_231⟩
theorem so_7_339 : am_SO 7 339 (gr' 32) := Or.inl ⟨32, rfl, kt_4_25⟩
theorem so_8_50 : am_SO 8 50 (gr' 36) := Or.inl ⟨36, rfl, kt_3_109⟩
theorem so_8_61 : am_SO 8 61 (gr' 34) := Or.inl ⟨34, rfl, kt_3_43⟩
theorem so_8_64 : am_SO 8 64 (gr' 35) := Or.inl ⟨35, rfl, kt_3_45⟩
theorem so_8_67 : am_SO 8 67 (zr 3000) := Or.inr (Or.inl ⟨rfl, kt_3_47⟩)
theorem so_16_18 : am_SO 16 18 (vi 1) := Or.inr (Or.inr (Or.inr (Or.inr (Or.inr (Or.inr (Or.inr (Or.inl ⟨rfl, kt_1_55⟩)))))))
theorem so_17_83 : am_SO 17 83 (zr 3003) := Or.inr (Or.inr (Or.inr (Or.inr (Or.inl ⟨rfl, kt_7_48⟩))))
theorem so_17_87 : am_SO 17 87 (zr 3002) := Or.inr (Or.inr (Or.inr (Or.inl ⟨rfl, kt_7_50⟩)))
theorem so_24_20 : am_SO 24 20 (vi 3) := Or.inr (Or.inr (Or.inr (Or.inr (Or.inr (Or.inr (Or.inr (Or.inr (Or.inr (Or.inr (⟨rfl, kt_8_148⟩))))))))))
theorem so_24_26 : am_SO 24 26 (zr 3007) := Or.inr (Or.inr (Or.inr (Or.inr (Or.inr (Or.inr (Or.inl ⟨rfl, kt_8_153⟩))))))
theorem so_24_51 : am_SO 24 51 (vi 2) := Or.inr (Or.inr (Or.inr (Or.inr (Or.inr (Or.inr (Or.inr (Or.inr (Or.inr (Or.inl ⟨rfl, kt_8_224⟩)))))))))
theorem so_24_170 : am_SO 24 170 (vi 16) := Or.inr (Or.inr (Or.inr (Or.inr (Or.inr (Or.inr (Or.inr (Or.inr (Or.inl ⟨rfl, kt_8_146⟩))))))))
theorem so_all_0 : ∀ e ∈ am_S_0, am_SO 0 e.1 e.2 := List.forall_mem_cons.mpr ⟨so_0_38, (fun _ h => by cases h)⟩
theorem so_all_2 : ∀ e ∈ am_S_2, am_SO 2 e.1 e.2 := List.forall_mem_cons.mpr ⟨so_2_39, (fun _ h => by cases h)⟩
theorem so_all_7 : ∀ e ∈ am_S_7, am_SO 7 e.1 e.2 := List.forall_mem_cons.mpr ⟨so_7_93, List.forall_mem_cons.mpr ⟨so_7_111, List.forall_mem_cons.mpr ⟨so_7_129, List.forall_mem_cons.mpr ⟨so_7_132, List.forall_mem_cons.mpr ⟨so_7_138, List.forall_mem_cons.mpr ⟨so_7_164, List.forall_mem_cons.mpr ⟨so_7_170, List.forall_mem_cons.mpr ⟨so_7_218, List.forall_mem_cons.mpr ⟨so_7_221, List.forall_mem_cons.mpr ⟨so_7_264, List.forall_mem_cons.mpr ⟨so_7_267, List.forall_mem_cons.mpr ⟨so_7_277, List.forall_mem_cons.mpr ⟨so_7_298, List.forall_mem_cons.mpr ⟨so_7_304, List.forall_mem_cons.mpr ⟨so_7_310, List.forall_mem_cons.mpr ⟨so_7_323, List.forall_mem_cons.mpr ⟨so_7_339, (fun _ h => by cases h)⟩⟩⟩⟩⟩⟩⟩⟩⟩⟩⟩⟩⟩⟩⟩⟩⟩
theorem so_all_8 : ∀ e ∈ am_S_8, am_SO 8 e.1 e.2 := List.forall_mem_cons.mpr ⟨so_8_50, List.forall_mem_cons.mpr ⟨so_8_61, List.forall_mem_cons.mpr ⟨so_8_64, List.forall_mem_cons.mpr ⟨so_8_67, (fun _ h => by cases h)⟩⟩⟩⟩
theorem so_all_16 : ∀ e ∈ am_S_16, am_SO 16 e.1 e.2 := List.forall_mem_cons.mpr ⟨so_16_18, (fun _ h => by cases h)⟩
theorem so_all_17 : ∀ e ∈ am_S_17, am_SO 17 e.1 e.2 := List.forall_mem_cons.mpr ⟨so_17_83, List.forall_mem_cons.mpr ⟨so_17_87, (fun _ h => by cases h)⟩⟩
theorem so_all_24 : ∀ e ∈ am_S_24, am_SO 24 e.1 e.2 := List.forall_mem_cons.mpr ⟨so_24_20, List.forall_mem_cons.mpr ⟨so_24_26, List.forall_mem_cons.mpr ⟨so_24_51, List.forall_mem_cons.mpr ⟨so_24_170, (fun _ h => by cases h)⟩⟩⟩⟩
theorem so_all : ∀ own k v, am_S own k = some v → am_SO own k v := by
  intro own k v h
  unfold am_S at h
  split at h
  · next l hl =>
    have h1 := am_lk_mem hl
    have h2 := am_lk_mem h
    simp only [List.mem_cons, List.not_mem_nil, or_false, Prod.mk.injEq] at h1
    rcases h1 with ⟨rfl, rfl⟩ | ⟨rfl, rfl⟩ | ⟨rfl, rfl⟩ | ⟨rfl, rfl⟩ | ⟨rfl, rfl⟩ | ⟨rfl, rfl⟩ | ⟨rfl, rfl⟩
    · exact so_all_0 _ h2
    · exact so_all_2 _ h2
    · exact so_all_7 _ h2
    · exact so_all_8 _ h2
    · exact so_all_16 _ h2
    · exact so_all_17 _ h2
    · exact so_all_24 _ h2
  · cases h
def am_CQ (own k : Nat) (v : AV) : Prop := (∃ x, v = vi x ∧ Cond.constant (am_cn own) k x ∈ sg_T) ∨ ∃ i text, v = zr (1000 + i) ∧ i < 60 ∧ am_sk.getD i ("", 0) = (am_cn own, k) ∧ Cond.stringRef (am_cn own) k text ∈ lw_tbl
theorem cq_7_46 : am_CQ 7 46 (vi 1000000) := Or.inl ⟨_, rfl, sg_in3 146 rfl rfl⟩
theorem cq_13_109 : am_CQ 13 109 (zr 1037) := Or.inr ⟨37, "floor ", rfl, by decide, rfl, lw_in6 176 rfl⟩
theorem cq_13_120 : am_CQ 13 120 (zr 1038) := Or.inr ⟨38, ";light ", rfl, by decide, rfl, lw_in7 73 rfl⟩
theorem cq_13_125 : am_CQ 13 125 (zr 1039) := Or.inr ⟨39, ";pace ", rfl, by decide, rfl, lw_in7 75 rfl⟩
theorem cq_13_127 : am_CQ 13 127 (zr 1040) := Or.inr ⟨40, ";drying ", rfl, by decide, rfl, lw_in7 76 rfl⟩
theorem cq_13_129 : am_CQ 13 129 (zr 1041) := Or.inr ⟨41, ";rest ", rfl, by decide, rfl, lw_in7 77 rfl⟩
theorem cq_13_131 : am_CQ 13 131 (zr 1042) := Or.inr ⟨42, ";stamina ", rfl, by decide, rfl, lw_in7 78 rfl⟩
theorem cq_13_133 : am_CQ 13 133 (zr 1043) := Or.inr ⟨43, ";noise ", rfl, by decide, rfl, lw_in7 79 rfl⟩
theorem cq_13_135 : am_CQ 13 135 (zr 1044) := Or.inr ⟨44, ";night ", rfl, by decide, rfl, lw_in7 80 rfl⟩
theorem cq_13_137 : am_CQ 13 137 (zr 1045) := Or.inr ⟨45, ";walker ", rfl, by decide, rfl, lw_in7 81 rfl⟩
theorem cq_13_139 : am_CQ 13 139 (zr 1046) := Or.inr ⟨46, " right", rfl, by decide, rfl, lw_in7 82 rfl⟩
theorem cq_13_141 : am_CQ 13 141 (zr 1047) := Or.inr ⟨47, " left", rfl, by decide, rfl, lw_in7 83 rfl⟩
theorem cq_13_143 : am_CQ 13 143 (zr 1048) := Or.inr ⟨48, ";cat ", rfl, by decide, rfl, lw_in7 84 rfl⟩
theorem cq_13_145 : am_CQ 13 145 (zr 1049) := Or.inr ⟨49, " stay", rfl, by decide, rfl, lw_in7 85 rfl⟩
theorem cq_13_147 : am_CQ 13 147 (zr 1050) := Or.inr ⟨50, " up", rfl, by decide, rfl, lw_in7 86 rfl⟩
theorem cq_13_149 : am_CQ 13 149 (zr 1051) := Or.inr ⟨51, " down", rfl, by decide, rfl, lw_in7 87 rfl⟩
theorem cq_13_151 : am_CQ 13 151 (zr 1052) := Or.inr ⟨52, ";curtain ", rfl, by decide, rfl, lw_in7 88 rfl⟩
theorem cq_13_153 : am_CQ 13 153 (zr 1053) := Or.inr ⟨53, ";draught ", rfl, by decide, rfl, lw_in7 89 rfl⟩
theorem cq_13_158 : am_CQ 13 158 (zr 1054) := Or.inr ⟨54, ";cloud ", rfl, by decide, rfl, lw_in7 94 rfl⟩
theorem cq_13_165 : am_CQ 13 165 (zr 1055) := Or.inr ⟨55, ";rug ", rfl, by decide, rfl, lw_in7 108 rfl⟩
theorem cq_13_170 : am_CQ 13 170 (zr 1056) := Or.inr ⟨56, ";spill ", rfl, by decide, rfl, lw_in7 130 rfl⟩
theorem cq_13_172 : am_CQ 13 172 (zr 1057) := Or.inr ⟨57, " 3;bowl row ", rfl, by decide, rfl, lw_in7 131 rfl⟩
theorem cq_13_174 : am_CQ 13 174 (zr 1058) := Or.inr ⟨58, ";repeat ", rfl, by decide, rfl, lw_in7 132 rfl⟩
theorem cq_13_176 : am_CQ 13 176 (zr 1059) := Or.inr ⟨59, " (turn;advance 2)", rfl, by decide, rfl, lw_in7 133 rfl⟩
theorem cq_16_38 : am_CQ 16 38 (vi 2147483631) := Or.inl ⟨_, rfl, sg_in6 184 rfl rfl⟩
theorem cq_16_39 : am_CQ 16 39 (vi 2147483647) := Or.inl ⟨_, rfl, sg_in6 185 rfl rfl⟩
theorem cq_24_200 : am_CQ 24 200 (vi 2147483639) := Or.inl ⟨_, rfl, sg_in6 133 rfl rfl⟩
theorem cq_all_7 : ∀ e ∈ am_C_7, am_CQ 7 e.1 e.2 := List.forall_mem_cons.mpr ⟨cq_7_46, (fun _ h => by cases h)⟩
theorem cq_all_13 : ∀ e ∈ am_C_13, am_CQ 13 e.1 e.2 := List.forall_mem_cons.mpr ⟨cq_13_109, List.forall_mem_cons.mpr ⟨cq_13_120, List.forall_mem_cons.mpr ⟨cq_13_125, List.forall_mem_cons.mpr ⟨cq_13_127, List.forall_mem_cons.mpr ⟨cq_13_129, List.forall_mem_cons.mpr ⟨cq_13_131, List.forall_mem_cons.mpr ⟨cq_13_133, List.forall_mem_cons.mpr ⟨cq_13_135, List.forall_mem_cons.mpr ⟨cq_13_137, List.forall_mem_cons.mpr ⟨cq_13_139, List.forall_mem_cons.mpr ⟨cq_13_141, List.forall_mem_cons.mpr ⟨cq_13_143, List.forall_mem_cons.mpr ⟨cq_13_145, List.forall_mem_cons.mpr ⟨cq_13_147, List.forall_mem_cons.mpr ⟨cq_13_149, List.forall_mem_cons.mpr ⟨cq_13_151, List.forall_mem_cons.mpr ⟨cq_13_153, List.forall_mem_cons.mpr ⟨cq_13_158, List.forall_mem_cons.mpr ⟨cq_13_165, List.forall_mem_cons.mpr ⟨cq_13_170, List.forall_mem_cons.mpr ⟨cq_13_172, List.forall_mem_cons.mpr ⟨cq_13_174, List.forall_mem_cons.mpr ⟨cq_13_176, (fun _ h => by cases h)⟩⟩⟩⟩⟩⟩⟩⟩⟩⟩⟩⟩⟩⟩⟩⟩⟩⟩⟩⟩⟩⟩⟩
theorem cq_all_16 : ∀ e ∈ am_C_16, am_CQ 16 e.1 e.2 := List.forall_mem_cons.mpr ⟨cq_16_38, List.forall_mem_cons.mpr ⟨cq_16_39, (fun _ h => by cases h)⟩⟩
theorem cq_all_24 : ∀ e ∈ am_C_24, am_CQ 24 e.1 e.2 := List.forall_mem_cons.mpr ⟨cq_24_200, (fun _ h => by cases h)⟩
theorem cq_all : ∀ own k v, am_C own k = some v → am_CQ own k v := by
  intro own k v h
  unfold am_C at h
  split at h
  · next l hl =>
    have h1 := am_lk_mem hl
    have h2 := am_lk_mem h
    simp only [List.mem_cons, List.not_mem_nil, or_false, Prod.mk.injEq] at h1
    rcases h1 with ⟨rfl, rfl⟩ | ⟨rfl, rfl⟩ | ⟨rfl, rfl⟩ | ⟨rfl, rfl⟩
    · exact cq_all_7 _ h2
    · exact cq_all_13 _ h2
    · exact cq_all_16 _ h2
    · exact cq_all_24 _ h2
  · cases h
