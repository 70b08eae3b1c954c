/-! what is known at the law's entry: the signs -/
def am_sn : List String := ["FLOOR", "LIGHT", "PACE", "DRYING", "REST", "STAMINA", "NOISE", "NIGHT", "WALKER", "CAT", "CURTAIN", "DRAUGHT", "CLOUD", "RUG", "BOWL", "SPILL", "MOP", "TURN", "OPEN", "CLOSE", "CARRY", "ADVANCE", "SLEEP", "REPEAT", "ROW", "COLUMN", "STAY", "UP", "DOWN", "LEFT", "RIGHT", "SEMICOLON", "OPENING", "CLOSING", "NUMBER", "UNKNOWN", "END"]
def am_ss (x : Nat) : Term := .static "MoonlitFloor$Sign" (am_sn.getD x "") "LMoonlitFloor$Sign;"
def am_SQ (x : Nat) : Prop := Cond.exactly (am_ss x) "MoonlitFloor$Sign" ∈ am_nl ∧ Cond.eq (.field (am_ss x) "java/lang/Enum" "ordinal" "I") (.int (nI x)) ∈ am_nl ∧ Cond.eq (.field (am_ss x) "MoonlitFloor$Sign" "setting" "Z") (.int (nI (am_set.getD x 0))) ∈ am_nl ∧ Cond.eq (.field (am_ss x) "MoonlitFloor$Sign" "event" "Z") (.int (nI (am_evt.getD x 0))) ∈ am_nl ∧ Cond.eq (.field (am_ss x) "MoonlitFloor$Sign" "text" "Ljava/lang/String;") (am_tm x) ∈ am_nl ∧ Cond.laysStatic "MoonlitFloor$Sign" (am_sn.getD x "") "LMoonlitFloor$Sign;" ∈ lw_tbl
theorem kx_0 : am_SQ 0 := ⟨am_nl1 (List.mem_of_getElem? (i := 66) (by decide +kernel)), am_nl1 (List.mem_of_getElem? (i := 67) (by decide +kernel)), am_nl1 (List.mem_of_getElem? (i := 69) (by decide +kernel)), am_nl1 (List.mem_of_getElem? (i := 70) (by decide +kernel)), am_nl1 (List.mem_of_getElem? (i := 68) (by decide +kernel)), lw_in3 120 rfl⟩
theorem kx_1 : am_SQ 1 := ⟨am_nl1 (List.mem_of_getElem? (i := 393) (by decide +kernel)), am_nl1 (List.mem_of_getElem? (i := 394) (by decide +kernel)), am_nl1 (List.mem_of_getElem? (i := 396) (by decide +kernel)), am_nl1 (List.mem_of_getElem? (i := 397) (by decide +kernel)), am_nl1 (List.mem_of_getElem? (i := 395) (by decide +kernel)), lw_in9 49 rfl⟩
theorem kx_2 : am_SQ 2 := ⟨am_nl1 (List.mem_of_getElem? (i := 398) (by decide +kernel)), am_nl1 (List.mem_of_getElem? (i := 399) (by decide +kernel)), am_nl2 (List.mem_of_getElem? (i := 1) (by decide +kernel)), am_nl2 (List.mem_of_getElem? (i := 2) (by decide +kernel)), am_nl2 (List.mem_of_getElem? (i := 0) (by decide +kernel)), lw_in9 50 rfl⟩
theorem kx_3 : am_SQ 3 := ⟨am_nl2 (List.mem_of_getElem? (i := 3) (by decide +kernel)), am_nl2 (List.mem_of_getElem? (i := 4) (by decide +kernel)), am_nl2 (List.mem_of_getElem? (i := 6) (by decide +kernel)), am_nl2 (List.mem_of_getElem? (i := 7) (by decide +kernel)), am_nl2 (List.mem_of_getElem? (i := 5) (by decide +kernel)), lw_in9 51 rfl⟩
theorem kx_4 : am_SQ 4 := ⟨am_nl2 (List.mem_of_getElem? (i := 8) (by decide +kernel)), am_nl2 (List.mem_of_getElem? (i := 9) (by decide +kernel)), am_nl2 (List.mem_of_getElem? (i := 11) (by decide +kernel)), am_nl2 (List.mem_of_getElem? (i := 12) (by decide +kernel)), am_nl2 (List.mem_of_getElem? (i := 10) (by decide +kernel)), lw_in9 52 rfl⟩
theorem kx_5 : am_SQ 5 := ⟨am_nl2 (List.mem_of_getElem? (i := 13) (by decide +kernel)), am_nl2 (List.mem_of_getElem? (i := 14) (by decide +kernel)), am_nl2 (List.mem_of_getElem? (i := 16) (by decide +kernel)), am_nl2 (List.mem_of_getElem? (i := 17) (by decide +kernel)), am_nl2 (List.mem_of_getElem? (i := 15) (by decide +kernel)), lw_in9 53 rfl⟩
theorem kx_6 : am_SQ 6 := ⟨am_nl2 (List.mem_of_getElem? (i := 18) (by decide +kernel)), am_nl2 (List.mem_of_getElem? (i := 19) (by decide +kernel)), am_nl2 (List.mem_of_getElem? (i := 21) (by decide +kernel)), am_nl2 (List.mem_of_getElem? (i := 22) (by decide +kernel)), am_nl2 (List.mem_of_getElem? (i := 20) (by decide +kernel)), lw_in9 54 rfl⟩
theorem kx_7 : am_SQ 7 := ⟨am_nl2 (List.mem_of_getElem? (i := 23) (by decide +kernel)), am_nl2 (List.mem_of_getElem? (i := 24) (by decide +kernel)), am_nl2 (List.mem_of_getElem? (i := 26) (by decide +kernel)), am_nl2 (List.mem_of_getElem? (i := 27) (by decide +kernel)), am_nl2 (List.mem_of_getElem? (i := 25) (by decide +kernel)), lw_in9 55 rfl⟩
theorem kx_8 : am_SQ 8 := ⟨am_nl2 (List.mem_of_getElem? (i := 28) (by decide +kernel)), am_nl2 (List.mem_of_getElem? (i := 29) (by decide +kernel)), am_nl2 (List.mem_of_getElem? (i := 31) (by decide +kernel)), am_nl2 (List.mem_of_getElem? (i := 32) (by decide +kernel)), am_nl2 (List.mem_of_getElem? (i := 30) (by decide +kernel)), lw_in9 56 rfl⟩
theorem kx_9 : am_SQ 9 := ⟨am_nl2 (List.mem_of_getElem? (i := 33) (by decide +kernel)), am_nl2 (List.mem_of_getElem? (i := 34) (by decide +kernel)), am_nl2 (List.mem_of_getElem? (i := 36) (by decide +kernel)), am_nl2 (List.mem_of_getElem? (i := 37) (by decide +kernel)), am_nl2 (List.mem_of_getElem? (i := 35) (by decide +kernel)), lw_in9 57 rfl⟩
theorem kx_10 : am_SQ 10 := ⟨am_nl2 (List.mem_of_getElem? (i := 38) (by decide +kernel)), am_nl2 (List.mem_of_getElem? (i := 39) (by decide +kernel)), am_nl2 (List.mem_of_getElem? (i := 41) (by decide +kernel)), am_nl2 (List.mem_of_getElem? (i := 42) (by decide +kernel)), am_nl2 (List.mem_of_getElem? (i := 40) (by decide +kernel)), lw_in9 58 rfl⟩
theorem kx_11 : am_SQ 11 := ⟨am_nl2 (List.mem_of_getElem? (i := 43) (by decide +kernel)), am_nl2 (List.mem_of_getElem? (i := 44) (by decide +kernel)), am_nl2 (List.mem_of_getElem? (i := 46) (by decide +kernel)), am_nl2 (List.mem_of_getElem? (i := 47) (by decide +kernel)), am_nl2 (List.mem_of_getElem? (i := 45) (by decide +kernel)), lw_in9 59 rfl⟩
theorem kx_12 : am_SQ 12 := ⟨am_nl1 (List.mem_of_getElem? (i := 161) (by decide +kernel)), am_nl1 (List.mem_of_getElem? (i := 162) (by decide +kernel)), am_nl1 (List.mem_of_getElem? (i := 164) (by decide +kernel)), am_nl1 (List.mem_of_getElem? (i := 165) (by decide +kernel)), am_nl1 (List.mem_of_getElem? (i := 163) (by decide +kernel)), lw_in4 168 rfl⟩
theorem kx_13 : am_SQ 13 := ⟨am_nl1 (List.mem_of_getElem? (i := 151) (by decide +kernel)), am_nl1 (List.mem_of_getElem? (i := 152) (by decide +kernel)), am_nl1 (List.mem_of_getElem? (i := 154) (by decide +kernel)), am_nl1 (List.mem_of_getElem? (i := 155) (by decide +kernel)), am_nl1 (List.mem_of_getElem? (i := 153) (by decide +kernel)), lw_in4 52 rfl⟩
theorem kx_14 : am_SQ 14 := ⟨am_nl1 (List.mem_of_getElem? (i := 156) (by decide +kernel)), am_nl1 (List.mem_of_getElem? (i := 157) (by decide +kernel)), am_nl1 (List.mem_of_getElem? (i := 159) (by decide +kernel)), am_nl1 (List.mem_of_getElem? (i := 160) (by decide +kernel)), am_nl1 (List.mem_of_getElem? (i := 158) (by decide +kernel)), lw_in4 54 rfl⟩
theorem kx_15 : am_SQ 15 := ⟨am_nl2 (List.mem_of_getElem? (i := 48) (by decide +kernel)), am_nl2 (List.mem_of_getElem? (i := 49) (by decide +kernel)), am_nl2 (List.mem_of_getElem? (i := 51) (by decide +kernel)), am_nl2 (List.mem_of_getElem? (i := 52) (by decide +kernel)), am_nl2 (List.mem_of_getElem? (i := 50) (by decide +kernel)), lw_in9 60 rfl⟩
theorem kx_16 : am_SQ 16 := ⟨am_nl2 (List.mem_of_getElem? (i := 53) (by decide +kernel)), am_nl2 (List.mem_of_getElem? (i := 54) (by decide +kernel)), am_nl2 (List.mem_of_getElem? (i := 56) (by decide +kernel)), am_nl2 (List.mem_of_getElem? (i := 57) (by decide +kernel)), am_nl2 (List.mem_of_getElem? (i := 55) (by decide +kernel)), lw_in9 61 rfl⟩
theorem kx_17 : am_SQ 17 := ⟨am_nl2 (List.mem_of_getElem? (i := 58) (by decide +kernel)), am_nl2 (List.mem_of_getElem? (i := 59) (by decide +kernel)), am_nl2 (List.mem_of_getElem? (i := 61) (by decide +kernel)), am_nl2 (List.mem_of_getElem? (i := 62) (by decide +kernel)), am_nl2 (List.mem_of_getElem? (i := 60) (by decide +kernel)), lw_in9 62 rfl⟩
theorem kx_18 : am_SQ 18 := ⟨am_nl2 (List.mem_of_getElem? (i := 63) (by decide +kernel)), am_nl2 (List.mem_of_getElem? (i := 64) (by decide +kernel)), am_nl2 (List.mem_of_getElem? (i := 66) (by decide +kernel)), am_nl2 (List.mem_of_getElem? (i := 67) (by decide +kernel)), am_nl2 (List.mem_of_getElem? (i := 65) (by decide +kernel)), lw_in9 63 rfl⟩
theorem kx_19 : am_SQ 19 := ⟨am_nl2 (List.mem_of_getElem? (i := 68) (by decide +kernel)), am_nl2 (List.mem_of_getElem? (i := 69) (by decide +kernel)), am_nl2 (List.mem_of_getElem? (i := 71) (by decide +kernel)), am_nl2 (List.mem_of_getElem? (i := 72) (by decide +kernel)), am_nl2 (List.mem_of_getElem? (i := 70) (by decide +kernel)), lw_in9 64 rfl⟩
theorem kx_20 : am_SQ 20 := ⟨am_nl2 (List.mem_of_getElem? (i := 73) (by decide +kernel)), am_nl2 (List.mem_of_getElem? (i := 74) (by decide +kernel)), am_nl2 (List.mem_of_getElem? (i := 76) (by decide +kernel)), am_nl2 (List.mem_of_getElem? (i := 77) (by decide +kernel)), am_nl2 (List.mem_of_getElem? (i := 75) (by decide +kernel)), lw_in9 65 rfl⟩
theorem kx_21 : am_SQ 21 := ⟨am_nl1 (List.mem_of_getElem? (i := 91) (by decide +kernel)), am_nl1 (List.mem_of_getElem? (i := 92) (by decide +kernel)), am_nl1 (List.mem_of_getElem? (i := 94) (by decide +kernel)), am_nl1 (List.mem_of_getElem? (i := 95) (by decide +kernel)), am_nl1 (List.mem_of_getElem? (i := 93) (by decide +kernel)), lw_in3 232 rfl⟩
theorem kx_22 : am_SQ 22 := ⟨am_nl1 (List.mem_of_getElem? (i := 86) (by decide +kernel)), am_nl1 (List.mem_of_getElem? (i := 87) (by decide +kernel)), am_nl1 (List.mem_of_getElem? (i := 89) (by decide +kernel)), am_nl1 (List.mem_of_getElem? (i := 90) (by decide +kernel)), am_nl1 (List.mem_of_getElem? (i := 88) (by decide +kernel)), lw_in3 222 rfl⟩
theorem kx_23 : am_SQ 23 := ⟨am_nl1 (List.mem_of_getElem? (i := 81) (by decide +kernel)), am_nl1 (List.mem_of_getElem? (i := 82) (by decide +kernel)), am_nl1 (List.mem_of_getElem? (i := 84) (by decide +kernel)), am_nl1 (List.mem_of_getElem? (i := 85) (by decide +kernel)), am_nl1 (List.mem_of_getElem? (i := 83) (by decide +kernel)), lw_in3 216 rfl⟩
theorem kx_24 : am_SQ 24 := ⟨am_nl1 (List.mem_of_getElem? (i := 141) (by decide +kernel)), am_nl1 (List.mem_of_getElem? (i := 142) (by decide +kernel)), am_nl1 (List.mem_of_getElem? (i := 144) (by decide +kernel)), am_nl1 (List.mem_of_getElem? (i := 145) (by decide +kernel)), am_nl1 (List.mem_of_getElem? (i := 143) (by decide +kernel)), lw_in4 36 rfl⟩
theorem kx_25 : am_SQ 25 := ⟨am_nl1 (List.mem_of_getElem? (i := 146) (by decide +kernel)), am_nl1 (List.mem_of_getElem? (i := 147) (by decide +kernel)), am_nl1 (List.mem_of_getElem? (i := 149) (by decide +kernel)), am_nl1 (List.mem_of_getElem? (i := 150) (by decide +kernel)), am_nl1 (List.mem_of_getElem? (i := 148) (by decide +kernel)), lw_in4 38 rfl⟩
theorem kx_26 : am_SQ 26 := ⟨am_nl2 (List.mem_of_getElem? (i := 78) (by decide +kernel)), am_nl2 (List.mem_of_getElem? (i := 79) (by decide +kernel)), am_nl2 (List.mem_of_getElem? (i := 81) (by decide +kernel)), am_nl2 (List.mem_of_getElem? (i := 82) (by decide +kernel)), am_nl2 (List.mem_of_getElem? (i := 80) (by decide +kernel)), lw_in9 66 rfl⟩
theorem kx_27 : am_SQ 27 := ⟨am_nl2 (List.mem_of_getElem? (i := 83) (by decide +kernel)), am_nl2 (List.mem_of_getElem? (i := 84) (by decide +kernel)), am_nl2 (List.mem_of_getElem? (i := 86) (by decide +kernel)), am_nl2 (List.mem_of_getElem? (i := 87) (by decide +kernel)), am_nl2 (List.mem_of_getElem? (i := 85) (by decide +kernel)), lw_in9 67 rfl⟩
theorem kx_28 : am_SQ 28 := ⟨am_nl2 (List.mem_of_getElem? (i := 88) (by decide +kernel)), am_nl2 (List.mem_of_getElem? (i := 89) (by decide +kernel)), am_nl2 (List.mem_of_getElem? (i := 91) (by decide +kernel)), am_nl2 (List.mem_of_getElem? (i := 92) (by decide +kernel)), am_nl2 (List.mem_of_getElem? (i := 90) (by decide +kernel)), lw_in9 68 rfl⟩
theorem kx_29 : am_SQ 29 := ⟨am_nl1 (List.mem_of_getElem? (i := 166) (by decide +kernel)), am_nl1 (List.mem_of_getElem? (i := 167) (by decide +kernel)), am_nl1 (List.mem_of_getElem? (i := 169) (by decide +kernel)), am_nl1 (List.mem_of_getElem? (i := 170) (by decide +kernel)), am_nl1 (List.mem_of_getElem? (i := 168) (by decide +kernel)), lw_in4 174 rfl⟩
theorem kx_30 : am_SQ 30 := ⟨am_nl1 (List.mem_of_getElem? (i := 171) (by decide +kernel)), am_nl1 (List.mem_of_getElem? (i := 172) (by decide +kernel)), am_nl1 (List.mem_of_getElem? (i := 174) (by decide +kernel)), am_nl1 (List.mem_of_getElem? (i := 175) (by decide +kernel)), am_nl1 (List.mem_of_getElem? (i := 173) (by decide +kernel)), lw_in4 176 rfl⟩
theorem kx_31 : am_SQ 31 := ⟨am_nl1 (List.mem_of_getElem? (i := 71) (by decide +kernel)), am_nl1 (List.mem_of_getElem? (i := 72) (by decide +kernel)), am_nl1 (List.mem_of_getElem? (i := 74) (by decide +kernel)), am_nl1 (List.mem_of_getElem? (i := 75) (by decide +kernel)), am_nl1 (List.mem_of_getElem? (i := 73) (by decide +kernel)), lw_in3 152 rfl⟩
theorem kx_32 : am_SQ 32 := ⟨am_nl1 (List.mem_of_getElem? (i := 136) (by decide +kernel)), am_nl1 (List.mem_of_getElem? (i := 137) (by decide +kernel)), am_nl1 (List.mem_of_getElem? (i := 139) (by decide +kernel)), am_nl1 (List.mem_of_getElem? (i := 140) (by decide +kernel)), am_nl1 (List.mem_of_getElem? (i := 138) (by decide +kernel)), lw_in4 26 rfl⟩
theorem kx_33 : am_SQ 33 := ⟨am_nl1 (List.mem_of_getElem? (i := 76) (by decide +kernel)), am_nl1 (List.mem_of_getElem? (i := 77) (by decide +kernel)), am_nl1 (List.mem_of_getElem? (i := 79) (by decide +kernel)), am_nl1 (List.mem_of_getElem? (i := 80) (by decide +kernel)), am_nl1 (List.mem_of_getElem? (i := 78) (by decide +kernel)), lw_in3 154 rfl⟩
theorem kx_34 : am_SQ 34 := ⟨am_nl1 (List.mem_of_getElem? (i := 5) (by decide +kernel)), am_nl1 (List.mem_of_getElem? (i := 6) (by decide +kernel)), am_nl1 (List.mem_of_getElem? (i := 8) (by decide +kernel)), am_nl1 (List.mem_of_getElem? (i := 9) (by decide +kernel)), am_nl1 (List.mem_of_getElem? (i := 7) (by decide +kernel)), lw_in3 44 rfl⟩
theorem kx_35 : am_SQ 35 := ⟨am_nl1 (List.mem_of_getElem? (i := 10) (by decide +kernel)), am_nl1 (List.mem_of_getElem? (i := 11) (by decide +kernel)), am_nl1 (List.mem_of_getElem? (i := 13) (by decide +kernel)), am_nl1 (List.mem_of_getElem? (i := 14) (by decide +kernel)), am_nl1 (List.mem_of_getElem? (i := 12) (by decide +kernel)), lw_in3 46 rfl⟩
theorem kx_36 : am_SQ 36 := ⟨am_nl1 (List.mem_of_getElem? (i := 61) (by decide +kernel)), am_nl1 (List.mem_of_getElem? (i := 62) (by decide +kernel)), am_nl1 (List.mem_of_getElem? (i := 64) (by decide +kernel)), am_nl1 (List.mem_of_getElem? (i := 65) (by decide +kernel)), am_nl1 (List.mem_of_getElem? (i := 63) (by decide +kernel)), lw_in3 110 rfl⟩
theorem kx_all (i : Nat) (hi : i < 37) : am_SQ i := by
  match i, hi with
  | 0, _ => exact kx_0
  | 1, _ => exact kx_1
  | 2, _ => exact kx_2
  | 3, _ => exact kx_3
  | 4, _ => exact kx_4
  | 5, _ => exact kx_5
  | 6, _ => exact kx_6
  | 7, _ => exact kx_7
  | 8, _ => exact kx_8
  | 9, _ => exact kx_9
  | 10, _ => exact kx_10
  | 11, _ => exact kx_11
  | 12, _ => exact kx_12
  | 13, _ => exact kx_13
  | 14, _ => exact kx_14
  | 15, _ => exact kx_15
  | 16, _ => exact kx_16
  | 17, _ => exact kx_17
  | 18, _ => exact kx_18
  | 19, _ => exact kx_19
  | 20, _ => exact kx_20
  | 21, _ => exact kx_21
  | 22, _ => exact kx_22
  | 23, _ => exact kx_23
  | 24, _ => exact kx_24
  | 25, _ => exact kx_25
  | 26, _ => exact kx_26
  | 27, _ => exact kx_27
  | 28, _ => exact kx_28
  | 29, _ => exact kx_29
  | 30, _ => exact kx_30
  | 31, _ => exact kx_31
  | 32, _ => exact kx_32
  | 33, _ => exact kx_33
  | 34, _ => exact kx_34
  | 35, _ => exact kx_35
  | 36, _ => exact kx_36
  | i + 37, h => exact absurd h (by omega)
