/-! statics and constants that the class files name -/
def am_SO (own k : Nat) (v : AV) : Prop := (∃ x : Fin 37, v = gr' x ∧ Cond.fieldLink (am_cn own) k "MoonlitFloor$Sign" (am_sn.getD x.val "") "LMoonlitFloor$Sign;" ∈ sg_T) ∨ (v = zr 3000 ∧ Cond.fieldLink (am_cn own) k "MoonlitFloor$Tokens" "SIGNS" "[LMoonlitFloor$Sign;" ∈ sg_T) ∨ (v = zr 3001 ∧ Cond.fieldLink (am_cn own) k "MoonlitFloor$1" "$SwitchMap$MoonlitFloor$Sign" "[I" ∈ sg_T) ∨ (v = zr 3002 ∧ Cond.fieldLink (am_cn own) k "java/lang/Integer" "DigitTens" "[B" ∈ sg_T) ∨ (v = zr 3003 ∧ Cond.fieldLink (am_cn own) k "java/lang/Integer" "DigitOnes" "[B" ∈ sg_T) ∨ (v = vi 1 ∧ Cond.fieldLink (am_cn own) k "java/lang/String" "COMPACT_STRINGS" "Z" ∈ sg_T)
theorem so_0_38 : am_SO 0 38 (vi 1) := Or.inr (Or.inr (Or.inr (Or.inr (Or.inr (⟨rfl, kt_3_92⟩)))))
theorem so_7_93 : am_SO 7 93 (gr' 34) := Or.inl ⟨34, rfl, kt_3_174⟩
theorem so_7_111 : am_SO 7 111 (gr' 0) := Or.inl ⟨0, rfl, kt_3_152⟩
theorem so_7_129 : am_SO 7 129 (gr' 31) := Or.inl ⟨31, rfl, kt_3_184⟩
theorem so_7_132 : am_SO 7 132 (gr' 33) := Or.inl ⟨33, rfl, kt_3_186⟩
theorem so_7_138 : am_SO 7 138 (gr' 36) := Or.inl ⟨36, rfl, kt_3_198⟩
theorem so_7_164 : am_SO 7 164 (gr' 12) := Or.inl ⟨12, rfl, kt_4_200⟩
theorem so_7_170 : am_SO 7 170 (zr 3001) := Or.inr (Or.inr (Or.inl ⟨rfl, kt_4_26⟩))
theorem so_7_218 : am_SO 7 218 (gr' 29) := Or.inl ⟨29, rfl, kt_4_206⟩
theorem so_7_221 : am_SO 7 221 (gr' 30) := Or.inl ⟨30, rfl, kt_4_208⟩
theorem so_7_264 : am_SO 7 264 (gr' 24) := Or.inl ⟨24, rfl, kt_4_68⟩
theorem so_7_267 : am_SO 7 267 (gr' 25) := Or.inl ⟨25, rfl, kt_4_70⟩
theorem so_7_277 : am_SO 7 277 (gr' 13) := Or.inl ⟨13, rfl, kt_4_84⟩
theorem so_7_298 : am_SO 7 298 (gr' 14) := Or.inl ⟨14, rfl, kt_4_86⟩
theorem so_7_304 : am_SO 7 304 (gr' 23) := Or.inl ⟨23, rfl, kt_4_8⟩
theorem so_7_310 : am_SO 7 310 (gr' 22) := Or.inl ⟨22, rfl, kt_4_14⟩
theorem so_7_323 : am_SO 7 323 (gr' 21) := Or.inl ⟨21, rfl, kt_4_24⟩
theorem so_7_339 : am_SO 7 339 (gr' 32) := Or.inl ⟨32, rfl, kt_4_58⟩
theorem so_8_50 : am_SO 8 50 (gr' 36) := Or.inl ⟨36, rfl, kt_3_142⟩
theorem so_8_61 : am_SO 8 61 (gr' 34) := Or.inl ⟨34, rfl, kt_3_78⟩
theorem so_8_64 : am_SO 8 64 (gr' 35) := Or.inl ⟨35, rfl, kt_3_80⟩
theorem so_8_67 : am_SO 8 67 (zr 3000) := Or.inr (Or.inl ⟨rfl, kt_3_82⟩)
theorem so_16_18 : am_SO 16 18 (vi 1) := Or.inr (Or.inr (Or.inr (Or.inr (Or.inr (⟨rfl, kt_1_50⟩)))))
theorem so_17_83 : am_SO 17 83 (zr 3003) := Or.inr (Or.inr (Or.inr (Or.inr (Or.inl ⟨rfl, kt_7_80⟩))))
theorem so_17_87 : am_SO 17 87 (zr 3002) := Or.inr (Or.inr (Or.inr (Or.inl ⟨rfl, kt_7_82⟩)))
theorem so_all_0 : ∀ e ∈ am_S_0, am_SO 0 e.1 e.2 := List.forall_mem_cons.mpr ⟨so_0_38, (fun _ h => by cases h)⟩
theorem so_all_7 : ∀ e ∈ am_S_7, am_SO 7 e.1 e.2 := List.forall_mem_cons.mpr ⟨so_7_93, List.forall_mem_cons.mpr ⟨so_7_111, List.forall_mem_cons.mpr ⟨so_7_129, List.forall_mem_cons.mpr ⟨so_7_132, List.forall_mem_cons.mpr ⟨so_7_138, List.forall_mem_cons.mpr ⟨so_7_164, List.forall_mem_cons.mpr ⟨so_7_170, List.forall_mem_cons.mpr ⟨so_7_218, List.forall_mem_cons.mpr ⟨so_7_221, List.forall_mem_cons.mpr ⟨so_7_264, List.forall_mem_cons.mpr ⟨so_7_267, List.forall_mem_cons.mpr ⟨so_7_277, List.forall_mem_cons.mpr ⟨so_7_298, List.forall_mem_cons.mpr ⟨so_7_304, List.forall_mem_cons.mpr ⟨so_7_310, List.forall_mem_cons.mpr ⟨so_7_323, List.forall_mem_cons.mpr ⟨so_7_339, (fun _ h => by cases h)⟩⟩⟩⟩⟩⟩⟩⟩⟩⟩⟩⟩⟩⟩⟩⟩⟩
theorem so_all_8 : ∀ e ∈ am_S_8, am_SO 8 e.1 e.2 := List.forall_mem_cons.mpr ⟨so_8_50, List.forall_mem_cons.mpr ⟨so_8_61, List.forall_mem_cons.mpr ⟨so_8_64, List.forall_mem_cons.mpr ⟨so_8_67, (fun _ h => by cases h)⟩⟩⟩⟩
theorem so_all_16 : ∀ e ∈ am_S_16, am_SO 16 e.1 e.2 := List.forall_mem_cons.mpr ⟨so_16_18, (fun _ h => by cases h)⟩
theorem so_all_17 : ∀ e ∈ am_S_17, am_SO 17 e.1 e.2 := List.forall_mem_cons.mpr ⟨so_17_83, List.forall_mem_cons.mpr ⟨so_17_87, (fun _ h => by cases h)⟩⟩
theorem so_all : ∀ own k v, am_S own k = some v → am_SO own k v := by
  intro own k v h
  unfold am_S at h
  split at h
  · next l hl =>
    have h1 := am_lk_mem hl
    have h2 := am_lk_mem h
    simp only [List.mem_cons, List.not_mem_nil, or_false, Prod.mk.injEq] at h1
    rcases h1 with ⟨rfl, rfl⟩ | ⟨rfl, rfl⟩ | ⟨rfl, rfl⟩ | ⟨rfl, rfl⟩ | ⟨rfl, rfl⟩
    · exact so_all_0 _ h2
    · exact so_all_7 _ h2
    · exact so_all_8 _ h2
    · exact so_all_16 _ h2
    · exact so_all_17 _ h2
  · cases h
def am_CQ (own k : Nat) (v : AV) : Prop := (∃ x, v = vi x ∧ Cond.constant (am_cn own) k x ∈ sg_T) ∨ ∃ i text, v = zr (1000 + i) ∧ i < 68 ∧ am_sk.getD i ("", 0) = (am_cn own, k) ∧ Cond.stringRef (am_cn own) k text ∈ lw_tbl
theorem cq_7_46 : am_CQ 7 46 (vi 1000000) := Or.inl ⟨_, rfl, sg_in3 179 rfl rfl⟩
theorem cq_12_118 : am_CQ 12 118 (zr 1037) := Or.inr ⟨37, "right", rfl, by decide, rfl, lw_in9 66 rfl⟩
theorem cq_12_124 : am_CQ 12 124 (zr 1038) := Or.inr ⟨38, "left", rfl, by decide, rfl, lw_in9 67 rfl⟩
theorem cq_12_130 : am_CQ 12 130 (zr 1039) := Or.inr ⟨39, "stay", rfl, by decide, rfl, lw_in9 83 rfl⟩
theorem cq_12_132 : am_CQ 12 132 (zr 1040) := Or.inr ⟨40, "up", rfl, by decide, rfl, lw_in9 84 rfl⟩
theorem cq_12_134 : am_CQ 12 134 (zr 1041) := Or.inr ⟨41, "down", rfl, by decide, rfl, lw_in9 85 rfl⟩
theorem cq_12_162 : am_CQ 12 162 (zr 1042) := Or.inr ⟨42, "row", rfl, by decide, rfl, lw_in9 110 rfl⟩
theorem cq_12_167 : am_CQ 12 167 (zr 1043) := Or.inr ⟨43, "column", rfl, by decide, rfl, lw_in9 139 rfl⟩
theorem cq_12_178 : am_CQ 12 178 (zr 1044) := Or.inr ⟨44, "light", rfl, by decide, rfl, lw_in9 37 rfl⟩
theorem cq_12_180 : am_CQ 12 180 (zr 1045) := Or.inr ⟨45, "pace", rfl, by decide, rfl, lw_in9 38 rfl⟩
theorem cq_12_182 : am_CQ 12 182 (zr 1046) := Or.inr ⟨46, "drying", rfl, by decide, rfl, lw_in9 39 rfl⟩
theorem cq_12_184 : am_CQ 12 184 (zr 1047) := Or.inr ⟨47, "rest", rfl, by decide, rfl, lw_in9 40 rfl⟩
theorem cq_12_186 : am_CQ 12 186 (zr 1048) := Or.inr ⟨48, "stamina", rfl, by decide, rfl, lw_in9 41 rfl⟩
theorem cq_12_188 : am_CQ 12 188 (zr 1049) := Or.inr ⟨49, "noise", rfl, by decide, rfl, lw_in9 42 rfl⟩
theorem cq_12_190 : am_CQ 12 190 (zr 1050) := Or.inr ⟨50, "night", rfl, by decide, rfl, lw_in9 43 rfl⟩
theorem cq_12_196 : am_CQ 12 196 (zr 1051) := Or.inr ⟨51, "walker", rfl, by decide, rfl, lw_in9 44 rfl⟩
theorem cq_12_198 : am_CQ 12 198 (zr 1052) := Or.inr ⟨52, "cat", rfl, by decide, rfl, lw_in9 45 rfl⟩
theorem cq_12_200 : am_CQ 12 200 (zr 1053) := Or.inr ⟨53, "curtain", rfl, by decide, rfl, lw_in9 46 rfl⟩
theorem cq_12_202 : am_CQ 12 202 (zr 1054) := Or.inr ⟨54, "draught", rfl, by decide, rfl, lw_in9 47 rfl⟩
theorem cq_12_204 : am_CQ 12 204 (zr 1055) := Or.inr ⟨55, "cloud", rfl, by decide, rfl, lw_in9 48 rfl⟩
theorem cq_12_206 : am_CQ 12 206 (zr 1056) := Or.inr ⟨56, "rug", rfl, by decide, rfl, lw_in9 49 rfl⟩
theorem cq_12_260 : am_CQ 12 260 (zr 1057) := Or.inr ⟨57, "bowl", rfl, by decide, rfl, lw_in9 156 rfl⟩
theorem cq_12_262 : am_CQ 12 262 (zr 1058) := Or.inr ⟨58, "spill", rfl, by decide, rfl, lw_in9 157 rfl⟩
theorem cq_12_264 : am_CQ 12 264 (zr 1059) := Or.inr ⟨59, "mop", rfl, by decide, rfl, lw_in9 158 rfl⟩
theorem cq_12_266 : am_CQ 12 266 (zr 1060) := Or.inr ⟨60, "turn", rfl, by decide, rfl, lw_in9 163 rfl⟩
theorem cq_12_268 : am_CQ 12 268 (zr 1061) := Or.inr ⟨61, "advance", rfl, by decide, rfl, lw_in9 164 rfl⟩
theorem cq_12_270 : am_CQ 12 270 (zr 1062) := Or.inr ⟨62, "repeat", rfl, by decide, rfl, lw_in9 165 rfl⟩
theorem cq_12_272 : am_CQ 12 272 (zr 1063) := Or.inr ⟨63, "open", rfl, by decide, rfl, lw_in9 166 rfl⟩
theorem cq_12_274 : am_CQ 12 274 (zr 1064) := Or.inr ⟨64, "close", rfl, by decide, rfl, lw_in9 167 rfl⟩
theorem cq_12_276 : am_CQ 12 276 (zr 1065) := Or.inr ⟨65, "carry", rfl, by decide, rfl, lw_in9 168 rfl⟩
theorem cq_12_278 : am_CQ 12 278 (zr 1066) := Or.inr ⟨66, "sleep", rfl, by decide, rfl, lw_in9 169 rfl⟩
theorem cq_12_310 : am_CQ 12 310 (zr 1067) := Or.inr ⟨67, "floor", rfl, by decide, rfl, lw_in9 6 rfl⟩
theorem cq_all_7 : ∀ e ∈ am_C_7, am_CQ 7 e.1 e.2 := List.forall_mem_cons.mpr ⟨cq_7_46, (fun _ h => by cases h)⟩
theorem cq_all_12 : ∀ e ∈ am_C_12, am_CQ 12 e.1 e.2 := List.forall_mem_cons.mpr ⟨cq_12_118, List.forall_mem_cons.mpr ⟨cq_12_124, List.forall_mem_cons.mpr ⟨cq_12_130, List.forall_mem_cons.mpr ⟨cq_12_132, List.forall_mem_cons.mpr ⟨cq_12_134, List.forall_mem_cons.mpr ⟨cq_12_162, List.forall_mem_cons.mpr ⟨cq_12_167, List.forall_mem_cons.mpr ⟨cq_12_178, List.forall_mem_cons.mpr ⟨cq_12_180, List.forall_mem_cons.mpr ⟨cq_12_182, List.forall_mem_cons.mpr ⟨cq_12_184, List.forall_mem_cons.mpr ⟨cq_12_186, List.forall_mem_cons.mpr ⟨cq_12_188, List.forall_mem_cons.mpr ⟨cq_12_190, List.forall_mem_cons.mpr ⟨cq_12_196, List.forall_mem_cons.mpr ⟨cq_12_198, List.forall_mem_cons.mpr ⟨cq_12_200, List.forall_mem_cons.mpr ⟨cq_12_202, List.forall_mem_cons.mpr ⟨cq_12_204, List.forall_mem_cons.mpr ⟨cq_12_206, List.forall_mem_cons.mpr ⟨cq_12_260, List.forall_mem_cons.mpr ⟨cq_12_262, List.forall_mem_cons.mpr ⟨cq_12_264, List.forall_mem_cons.mpr ⟨cq_12_266, List.forall_mem_cons.mpr ⟨cq_12_268, List.forall_mem_cons.mpr ⟨cq_12_270, List.forall_mem_cons.mpr ⟨cq_12_272, List.forall_mem_cons.mpr ⟨cq_12_274, List.forall_mem_cons.mpr ⟨cq_12_276, List.forall_mem_cons.mpr ⟨cq_12_278, List.forall_mem_cons.mpr ⟨cq_12_310, (fun _ h => by cases h)⟩⟩⟩⟩⟩⟩⟩⟩⟩⟩⟩⟩⟩⟩⟩⟩⟩⟩⟩⟩⟩⟩⟩⟩⟩⟩⟩⟩⟩⟩⟩
theorem cq_all : ∀ own k v, am_C own k = some v → am_CQ own k v := by
  intro own k v h
  unfold am_C at h
  split at h
  · next l hl =>
    have h1 := am_lk_mem hl
    have h2 := am_lk_mem h
    simp only [List.mem_cons, List.not_mem_nil, or_false, Prod.mk.injEq] at h1
    rcases h1 with ⟨rfl, rfl⟩ | ⟨rfl, rfl⟩
    · exact cq_all_7 _ h2
    · exact cq_all_12 _ h2
  · cases h
