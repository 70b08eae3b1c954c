/-- MoonlitFloor$Walker.reset()V -/
abbrev rm_X7_reset : Room := ({ frames := 0, cells := 0, slots := 0, locals := 0 } : Room)
abbrev wsX7_reset : List Cond := Cond.code yX7_reset cX7_reset 1 none :: sg_T
def f_X7_reset (tp : Nat → ClassId) (a0 : Nat) (σ : sg_H) : Option sg_H := ((sg_pi σ a0 9 0 (-1)).bind fun σ_1 => ((sg_pi σ_1 a0 9 1 0).bind fun σ_3 => ((sg_pz σ_3 a0 9 2 1).bind fun σ_5 => ((sg_pi σ_5 a0 9 3 0).bind fun σ_7 => ((sg_pi σ_7 a0 9 4 0).bind fun σ_9 => ((sg_pi σ_9 a0 9 5 0).bind fun σ_11 => ((sg_pi σ_11 a0 9 6 0).bind fun σ_13 => ((sg_pi σ_13 a0 9 7 0).bind fun σ_15 => ((sg_pi σ_15 a0 9 8 0).bind fun σ_17 => some σ_17)))))))))
set_option maxRecDepth 100000 in
set_option maxHeartbeats 4000000 in
theorem c_X7_reset {l : Launch} {D : va_G} {L : List Nat} {tp : Nat → ClassId} {Z : sg_Z} {σ : sg_H} {a0 : Nat} {σr : sg_H} (hZ : sg_Zok Z) (h : f_X7_reset tp a0 σ = some σr) : Met l yX7_reset wsX7_reset rm_X7_reset (sg_P D tp L Z σ [.ref a0]) (sg_Qv D L σr) 0 0 (fun q => q ∈ L) := by
  unfold f_X7_reset at h
  refine sg_ofW hZ (cc := cX7_reset) (maxL := 1) (ret := none) (by decide) rfl (Nat.le_of_ble_eq_true rfl) ?_
  intro p e s m below meth c ls hC hW hl
  have hx := hC.1.1
  have hb := hC.1.2.1
  have hml := hC.1.2.2.1
  have hown := hC.1.2.2.2.1
  have hts := hC.1.2.2.2.2
  have hZ := hC.2.2.2.2.2.2
  have hl : lv_has ls 1 [(0, .ref a0)] := hl
  refine lv_aload_n hx hb dX7_reset_0 rfl (lv_at hl 0 rfl) ?_
  refine lv_iconst (v := (-1)) hx hb dX7_reset_1 (by decide) ?_
  obtain ⟨σ_1, e_2, h⟩ := sg_bd h
  refine sg_putv hC hW (T := TX7) (sg_cs kw_X7) tyX7 tyX7_ok nmX7 rfl 0 (by decide) (sg_c kt_1_160) (fun _ z => z) rfl (tyX7_ok 0 (by decide)) rfl rfl e_2 dX7_reset_2 (fun H locs hW => ?_)
  refine lv_aload_n hx hb dX7_reset_5 rfl (lv_at hl 0 rfl) ?_
  refine lv_iconst (v := 0) hx hb dX7_reset_6 (by decide) ?_
  obtain ⟨σ_3, e_4, h⟩ := sg_bd h
  refine sg_putv hC hW (T := TX7) (sg_cs kw_X7) tyX7 tyX7_ok nmX7 rfl 1 (by decide) (sg_c kt_1_163) (fun _ z => z) rfl (tyX7_ok 1 (by decide)) rfl rfl e_4 dX7_reset_7 (fun H locs hW => ?_)
  refine lv_aload_n hx hb dX7_reset_10 rfl (lv_at hl 0 rfl) ?_
  refine lv_iconst (v := 1) hx hb dX7_reset_11 (by decide) ?_
  obtain ⟨σ_5, e_6, h⟩ := sg_bd h
  refine sg_putz hC hW (T := TX7) (sg_cs kw_X7) tyX7 tyX7_ok nmX7 rfl 2 (by decide) (sg_c kt_1_166) (fun _ z => z) rfl (tyX7_ok 2 (by decide)) e_6 dX7_reset_12 (fun H locs hW => ?_)
  refine lv_aload_n hx hb dX7_reset_15 rfl (lv_at hl 0 rfl) ?_
  refine lv_iconst (v := 0) hx hb dX7_reset_16 (by decide) ?_
  obtain ⟨σ_7, e_8, h⟩ := sg_bd h
  refine sg_putv hC hW (T := TX7) (sg_cs kw_X7) tyX7 tyX7_ok nmX7 rfl 3 (by decide) (sg_c kt_1_170) (fun _ z => z) rfl (tyX7_ok 3 (by decide)) rfl rfl e_8 dX7_reset_17 (fun H locs hW => ?_)
  refine lv_aload_n hx hb dX7_reset_20 rfl (lv_at hl 0 rfl) ?_
  refine lv_iconst (v := 0) hx hb dX7_reset_21 (by decide) ?_
  obtain ⟨σ_9, e_10, h⟩ := sg_bd h
  refine sg_putv hC hW (T := TX7) (sg_cs kw_X7) tyX7 tyX7_ok nmX7 rfl 4 (by decide) (sg_c kt_1_173) (fun _ z => z) rfl (tyX7_ok 4 (by decide)) rfl rfl e_10 dX7_reset_22 (fun H locs hW => ?_)
  refine lv_aload_n hx hb dX7_reset_25 rfl (lv_at hl 0 rfl) ?_
  refine lv_iconst (v := 0) hx hb dX7_reset_26 (by decide) ?_
  obtain ⟨σ_11, e_12, h⟩ := sg_bd h
  refine sg_putv hC hW (T := TX7) (sg_cs kw_X7) tyX7 tyX7_ok nmX7 rfl 5 (by decide) (sg_c kt_1_176) (fun _ z => z) rfl (tyX7_ok 5 (by decide)) rfl rfl e_12 dX7_reset_27 (fun H locs hW => ?_)
  refine lv_aload_n hx hb dX7_reset_30 rfl (lv_at hl 0 rfl) ?_
  refine lv_iconst (v := 0) hx hb dX7_reset_31 (by decide) ?_
  obtain ⟨σ_13, e_14, h⟩ := sg_bd h
  refine sg_putv hC hW (T := TX7) (sg_cs kw_X7) tyX7 tyX7_ok nmX7 rfl 6 (by decide) (sg_c kt_1_178) (fun _ z => z) rfl (tyX7_ok 6 (by decide)) rfl rfl e_14 dX7_reset_32 (fun H locs hW => ?_)
  refine lv_aload_n hx hb dX7_reset_35 rfl (lv_at hl 0 rfl) ?_
  refine lv_iconst (v := 0) hx hb dX7_reset_36 (by decide) ?_
  obtain ⟨σ_15, e_16, h⟩ := sg_bd h
  refine sg_putv hC hW (T := TX7) (sg_cs kw_X7) tyX7 tyX7_ok nmX7 rfl 7 (by decide) (sg_c kt_1_181) (fun _ z => z) rfl (tyX7_ok 7 (by decide)) rfl rfl e_16 dX7_reset_37 (fun H locs hW => ?_)
  refine lv_aload_n hx hb dX7_reset_40 rfl (lv_at hl 0 rfl) ?_
  refine lv_iconst (v := 0) hx hb dX7_reset_41 (by decide) ?_
  obtain ⟨σ_17, e_18, h⟩ := sg_bd h
  refine sg_putv hC hW (T := TX7) (sg_cs kw_X7) tyX7 tyX7_ok nmX7 rfl 8 (by decide) (sg_c kt_1_183) (fun _ z => z) rfl (tyX7_ok 8 (by decide)) rfl rfl e_18 dX7_reset_42 (fun H locs hW => ?_)
  cases h
  exact sg_vret hC hW dX7_reset_45
/-- MoonlitFloor$Walker.copyFrom(LMoonlitFloor$Walker;)V -/
abbrev rm_X7_copyFrom : Room := ({ frames := 0, cells := 0, slots := 0, locals := 0 } : Room)
abbrev wsX7_copyFrom : List Cond := Cond.code yX7_copyFrom cX7_copyFrom 2 none :: sg_T
def f_X7_copyFrom (tp : Nat → ClassId) (a0 : Nat) (a1 : Nat) (σ : sg_H) : Option sg_H := ((sg_gi σ a1 9 0).bind fun x_1 => ((sg_pi σ a0 9 0 x_1).bind fun σ_3 => ((sg_gi σ_3 a1 9 1).bind fun x_5 => ((sg_pi σ_3 a0 9 1 x_5).bind fun σ_7 => ((sg_gi σ_7 a1 9 2).bind fun x_9 => ((sg_pz σ_7 a0 9 2 x_9).bind fun σ_11 => ((sg_gi σ_11 a1 9 3).bind fun x_13 => ((sg_pi σ_11 a0 9 3 x_13).bind fun σ_15 => ((sg_gi σ_15 a1 9 4).bind fun x_17 => ((sg_pi σ_15 a0 9 4 x_17).bind fun σ_19 => ((sg_gi σ_19 a1 9 5).bind fun x_21 => ((sg_pi σ_19 a0 9 5 x_21).bind fun σ_23 => ((sg_gi σ_23 a1 9 6).bind fun x_25 => ((sg_pi σ_23 a0 9 6 x_25).bind fun σ_27 => ((sg_gi σ_27 a1 9 7).bind fun x_29 => ((sg_pi σ_27 a0 9 7 x_29).bind fun σ_31 => ((sg_gi σ_31 a1 9 8).bind fun x_33 => ((sg_pi σ_31 a0 9 8 x_33).bind fun σ_35 => some σ_35))))))))))))))))))
set_option maxRecDepth 100000 in
set_option maxHeartbeats 4000000 in
theorem c_X7_copyFrom {l : Launch} {D : va_G} {L : List Nat} {tp : Nat → ClassId} {Z : sg_Z} {σ : sg_H} {a0 : Nat} {a1 : Nat} {σr : sg_H} (hZ : sg_Zok Z) (h : f_X7_copyFrom tp a0 a1 σ = some σr) : Met l yX7_copyFrom wsX7_copyFrom rm_X7_copyFrom (sg_P D tp L Z σ [.ref a0, .ref a1]) (sg_Qv D L σr) 0 0 (fun q => q ∈ L) := by
  unfold f_X7_copyFrom at h
  refine sg_ofW hZ (cc := cX7_copyFrom) (maxL := 2) (ret := none) (by decide) rfl (Nat.le_of_ble_eq_true rfl) ?_
  intro p e s m below meth c ls hC hW hl
  have hx := hC.1.1
  have hb := hC.1.2.1
  have hml := hC.1.2.2.1
  have hown := hC.1.2.2.2.1
  have hts := hC.1.2.2.2.2
  have hZ := hC.2.2.2.2.2.2
  have hl : lv_has ls 2 [(0, .ref a0), (1, .ref a1)] := hl
  refine lv_aload_n hx hb dX7_copyFrom_0 rfl (lv_at hl 0 rfl) ?_
  refine lv_aload_n hx hb dX7_copyFrom_1 rfl (lv_at hl 1 rfl) ?_
  obtain ⟨x_1, e_2, h⟩ := sg_bd h
  refine sg_geti hC hW (T := TX7) (sg_cs kw_X7) rfl 0 (by decide) (sg_c kt_1_160) (fun _ z => z) e_2 dX7_copyFrom_2 ?_
  obtain ⟨σ_3, e_4, h⟩ := sg_bd h
  refine sg_putv hC hW (T := TX7) (sg_cs kw_X7) tyX7 tyX7_ok nmX7 rfl 0 (by decide) (sg_c kt_1_160) (fun _ z => z) rfl (tyX7_ok 0 (by decide)) rfl rfl e_4 dX7_copyFrom_5 (fun H locs hW => ?_)
  refine lv_aload_n hx hb dX7_copyFrom_8 rfl (lv_at hl 0 rfl) ?_
  refine lv_aload_n hx hb dX7_copyFrom_9 rfl (lv_at hl 1 rfl) ?_
  obtain ⟨x_5, e_6, h⟩ := sg_bd h
  refine sg_geti hC hW (T := TX7) (sg_cs kw_X7) rfl 1 (by decide) (sg_c kt_1_163) (fun _ z => z) e_6 dX7_copyFrom_10 ?_
  obtain ⟨σ_7, e_8, h⟩ := sg_bd h
  refine sg_putv hC hW (T := TX7) (sg_cs kw_X7) tyX7 tyX7_ok nmX7 rfl 1 (by decide) (sg_c kt_1_163) (fun _ z => z) rfl (tyX7_ok 1 (by decide)) rfl rfl e_8 dX7_copyFrom_13 (fun H locs hW => ?_)
  refine lv_aload_n hx hb dX7_copyFrom_16 rfl (lv_at hl 0 rfl) ?_
  refine lv_aload_n hx hb dX7_copyFrom_17 rfl (lv_at hl 1 rfl) ?_
  obtain ⟨x_9, e_10, h⟩ := sg_bd h
  refine sg_geti hC hW (T := TX7) (sg_cs kw_X7) rfl 2 (by decide) (sg_c kt_1_166) (fun _ z => z) e_10 dX7_copyFrom_18 ?_
  obtain ⟨σ_11, e_12, h⟩ := sg_bd h
  refine sg_putz hC hW (T := TX7) (sg_cs kw_X7) tyX7 tyX7_ok nmX7 rfl 2 (by decide) (sg_c kt_1_166) (fun _ z => z) rfl (tyX7_ok 2 (by decide)) e_12 dX7_copyFrom_21 (fun H locs hW => ?_)
  refine lv_aload_n hx hb dX7_copyFrom_24 rfl (lv_at hl 0 rfl) ?_
  refine lv_aload_n hx hb dX7_copyFrom_25 rfl (lv_at hl 1 rfl) ?_
  obtain ⟨x_13, e_14, h⟩ := sg_bd h
  refine sg_geti hC hW (T := TX7) (sg_cs kw_X7) rfl 3 (by decide) (sg_c kt_1_170) (fun _ z => z) e_14 dX7_copyFrom_26 ?_
  obtain ⟨σ_15, e_16, h⟩ := sg_bd h
  refine sg_putv hC hW (T := TX7) (sg_cs kw_X7) tyX7 tyX7_ok nmX7 rfl 3 (by decide) (sg_c kt_1_170) (fun _ z => z) rfl (tyX7_ok 3 (by decide)) rfl rfl e_16 dX7_copyFrom_29 (fun H locs hW => ?_)
  refine lv_aload_n hx hb dX7_copyFrom_32 rfl (lv_at hl 0 rfl) ?_
  refine lv_aload_n hx hb dX7_copyFrom_33 rfl (lv_at hl 1 rfl) ?_
  obtain ⟨x_17, e_18, h⟩ := sg_bd h
  refine sg_geti hC hW (T := TX7) (sg_cs kw_X7) rfl 4 (by decide) (sg_c kt_1_173) (fun _ z => z) e_18 dX7_copyFrom_34 ?_
  obtain ⟨σ_19, e_20, h⟩ := sg_bd h
  refine sg_putv hC hW (T := TX7) (sg_cs kw_X7) tyX7 tyX7_ok nmX7 rfl 4 (by decide) (sg_c kt_1_173) (fun _ z => z) rfl (tyX7_ok 4 (by decide)) rfl rfl e_20 dX7_copyFrom_37 (fun H locs hW => ?_)
  refine lv_aload_n hx hb dX7_copyFrom_40 rfl (lv_at hl 0 rfl) ?_
  refine lv_aload_n hx hb dX7_copyFrom_41 rfl (lv_at hl 1 rfl) ?_
  obtain ⟨x_21, e_22, h⟩ := sg_bd h
  refine sg_geti hC hW (T := TX7) (sg_cs kw_X7) rfl 5 (by decide) (sg_c kt_1_176) (fun _ z => z) e_22 dX7_copyFrom_42 ?_
  obtain ⟨σ_23, e_24, h⟩ := sg_bd h
  refine sg_putv hC hW (T := TX7) (sg_cs kw_X7) tyX7 tyX7_ok nmX7 rfl 5 (by decide) (sg_c kt_1_176) (fun _ z => z) rfl (tyX7_ok 5 (by decide)) rfl rfl e_24 dX7_copyFrom_45 (fun H locs hW => ?_)
  refine lv_aload_n hx hb dX7_copyFrom_48 rfl (lv_at hl 0 rfl) ?_
  refine lv_aload_n hx hb dX7_copyFrom_49 rfl (lv_at hl 1 rfl) ?_
  obtain ⟨x_25, e_26, h⟩ := sg_bd h
  refine sg_geti hC hW (T := TX7) (sg_cs kw_X7) rfl 6 (by decide) (sg_c kt_1_178) (fun _ z => z) e_26 dX7_copyFrom_50 ?_
  obtain ⟨σ_27, e_28, h⟩ := sg_bd h
  refine sg_putv hC hW (T := TX7) (sg_cs kw_X7) tyX7 tyX7_ok nmX7 rfl 6 (by decide) (sg_c kt_1_178) (fun _ z => z) rfl (tyX7_ok 6 (by decide)) rfl rfl e_28 dX7_copyFrom_53 (fun H locs hW => ?_)
  refine lv_aload_n hx hb dX7_copyFrom_56 rfl (lv_at hl 0 rfl) ?_
  refine lv_aload_n hx hb dX7_copyFrom_57 rfl (lv_at hl 1 rfl) ?_
  obtain ⟨x_29, e_30, h⟩ := sg_bd h
  refine sg_geti hC hW (T := TX7) (sg_cs kw_X7) rfl 7 (by decide) (sg_c kt_1_181) (fun _ z => z) e_30 dX7_copyFrom_58 ?_
  obtain ⟨σ_31, e_32, h⟩ := sg_bd h
  refine sg_putv hC hW (T := TX7) (sg_cs kw_X7) tyX7 tyX7_ok nmX7 rfl 7 (by decide) (sg_c kt_1_181) (fun _ z => z) rfl (tyX7_ok 7 (by decide)) rfl rfl e_32 dX7_copyFrom_61 (fun H locs hW => ?_)
  refine lv_aload_n hx hb dX7_copyFrom_64 rfl (lv_at hl 0 rfl) ?_
  refine lv_aload_n hx hb dX7_copyFrom_65 rfl (lv_at hl 1 rfl) ?_
  obtain ⟨x_33, e_34, h⟩ := sg_bd h
  refine sg_geti hC hW (T := TX7) (sg_cs kw_X7) rfl 8 (by decide) (sg_c kt_1_183) (fun _ z => z) e_34 dX7_copyFrom_66 ?_
  obtain ⟨σ_35, e_36, h⟩ := sg_bd h
  refine sg_putv hC hW (T := TX7) (sg_cs kw_X7) tyX7 tyX7_ok nmX7 rfl 8 (by decide) (sg_c kt_1_183) (fun _ z => z) rfl (tyX7_ok 8 (by decide)) rfl rfl e_36 dX7_copyFrom_69 (fun H locs hW => ?_)
  cases h
  exact sg_vret hC hW dX7_copyFrom_72
/-- MoonlitFloor$Walker.turnBack()V -/
abbrev rm_X7_turnBack : Room := ({ frames := 0, cells := 0, slots := 0, locals := 0 } : Room)
abbrev wsX7_turnBack : List Cond := Cond.code yX7_turnBack cX7_turnBack 1 none :: sg_T
def f_X7_turnBack_b13 (tp : Nat → ClassId) (a0 : Nat) (s0 : Nat) (s1 : Int32) (σ : sg_H) : Option sg_H := ((sg_pz σ s0 9 2 s1).bind fun σ_1 => ((sg_gi σ_1 a0 9 7).bind fun x_3 => ((sg_pi σ_1 a0 9 7 (x_3 + 1)).bind fun σ_5 => some σ_5)))
set_option maxRecDepth 100000 in
set_option maxHeartbeats 4000000 in
theorem c_X7_turnBack_b13 {p : Program} {l : Launch} {e : Env} {s : State} {m : MethodId} {args : Array Value} {below : List Frame} {meth : Method} {c : Code} {H : Heap} {locs : List Loc} {ls : Array Slot} {D : va_G} {L : List Nat} {tp : Nat → ClassId} {Z : sg_Z} {σ : sg_H} {a0 : Nat} {s0 : Nat} {s1 : Int32} {σr : sg_H} (hC : sg_C p c cX7_turnBack 1 s m meth args wsX7_turnBack RX7 none D tp L Z) (h : f_X7_turnBack_b13 tp a0 s0 s1 σ = some σr) (hW : sg_W D L (fun q => q ∈ L) s.heap σ H locs) (hl : lv_has ls 1 [(0, .ref a0)]) : W p l e rm_X7_turnBack s m args below meth c H locs 0 0 (MQ below (sg_Qv D L σr) args s 0 0 (fun q => q ∈ L)) (F0 m 13 ls [.int s1, .ref s0]) := by
  unfold f_X7_turnBack_b13 at h
  have hx := hC.1.1
  have hb := hC.1.2.1
  have hml := hC.1.2.2.1
  have hown := hC.1.2.2.2.1
  have hts := hC.1.2.2.2.2
  have hZ := hC.2.2.2.2.2.2
  obtain ⟨σ_1, e_2, h⟩ := sg_bd h
  refine sg_putz hC hW (T := TX7) (sg_cs kw_X7) tyX7 tyX7_ok nmX7 rfl 2 (by decide) (sg_c kt_1_166) (fun _ z => z) rfl (tyX7_ok 2 (by decide)) e_2 dX7_turnBack_13 (fun H locs hW => ?_)
  refine lv_aload_n hx hb dX7_turnBack_16 rfl (lv_at hl 0 rfl) ?_
  refine lv_dup hx hb dX7_turnBack_17 rfl ?_
  obtain ⟨x_3, e_4, h⟩ := sg_bd h
  refine sg_geti hC hW (T := TX7) (sg_cs kw_X7) rfl 7 (by decide) (sg_c kt_1_181) (fun _ z => z) e_4 dX7_turnBack_18 ?_
  refine lv_iconst (v := 1) hx hb dX7_turnBack_21 (by decide) ?_
  refine lv_iadd hx hb dX7_turnBack_22 ?_
  obtain ⟨σ_5, e_6, h⟩ := sg_bd h
  refine sg_putv hC hW (T := TX7) (sg_cs kw_X7) tyX7 tyX7_ok nmX7 rfl 7 (by decide) (sg_c kt_1_181) (fun _ z => z) rfl (tyX7_ok 7 (by decide)) rfl rfl e_6 dX7_turnBack_23 (fun H locs hW => ?_)
  cases h
  exact sg_vret hC hW dX7_turnBack_26
def f_X7_turnBack (tp : Nat → ClassId) (a0 : Nat) (σ : sg_H) : Option sg_H := ((sg_gi σ a0 9 2).bind fun x_7 => (if x_7 = 0 then f_X7_turnBack_b13 tp a0 a0 1 σ else f_X7_turnBack_b13 tp a0 a0 0 σ))
set_option maxRecDepth 100000 in
set_option maxHeartbeats 4000000 in
theorem c_X7_turnBack {l : Launch} {D : va_G} {L : List Nat} {tp : Nat → ClassId} {Z : sg_Z} {σ : sg_H} {a0 : Nat} {σr : sg_H} (hZ : sg_Zok Z) (h : f_X7_turnBack tp a0 σ = some σr) : Met l yX7_turnBack wsX7_turnBack rm_X7_turnBack (sg_P D tp L Z σ [.ref a0]) (sg_Qv D L σr) 0 0 (fun q => q ∈ L) := by
  unfold f_X7_turnBack at h
  refine sg_ofW hZ (cc := cX7_turnBack) (maxL := 1) (ret := none) (by decide) rfl (Nat.le_of_ble_eq_true rfl) ?_
  intro p e s m below meth c ls hC hW hl
  have hx := hC.1.1
  have hb := hC.1.2.1
  have hml := hC.1.2.2.1
  have hown := hC.1.2.2.2.1
  have hts := hC.1.2.2.2.2
  have hZ := hC.2.2.2.2.2.2
  have hl : lv_has ls 1 [(0, .ref a0)] := hl
  refine lv_aload_n hx hb dX7_turnBack_0 rfl (lv_at hl 0 rfl) ?_
  refine lv_aload_n hx hb dX7_turnBack_1 rfl (lv_at hl 0 rfl) ?_
  obtain ⟨x_7, e_8, h⟩ := sg_bd h
  refine sg_geti hC hW (T := TX7) (sg_cs kw_X7) rfl 2 (by decide) (sg_c kt_1_166) (fun _ z => z) e_8 dX7_turnBack_2 ?_
  refine lv_if_ne (tgt := 12) hx hb dX7_turnBack_5 (by decide) (fun hc => ?_) (fun hc => ?_)
  · replace h := sg_e h hc
    refine lv_iconst (v := 0) hx hb dX7_turnBack_12 (by decide) ?_
    exact c_X7_turnBack_b13 hC h hW (lv_sub hl [0] rfl)
  · replace h := sg_t h hc
    refine lv_iconst (v := 1) hx hb dX7_turnBack_8 (by decide) ?_
    refine lv_goto (tgt := 13) hx hb dX7_turnBack_9 (by decide) ?_
    exact c_X7_turnBack_b13 hC h hW (lv_sub hl [0] rfl)
/-- MoonlitFloor$Walker.countStep()V -/
abbrev rm_X7_countStep : Room := ({ frames := 0, cells := 0, slots := 0, locals := 0 } : Room)
abbrev wsX7_countStep : List Cond := Cond.code yX7_countStep cX7_countStep 1 none :: sg_T
def f_X7_countStep (tp : Nat → ClassId) (a0 : Nat) (σ : sg_H) : Option sg_H := ((sg_gi σ a0 9 5).bind fun x_1 => ((sg_pi σ a0 9 5 (x_1 + 1)).bind fun σ_3 => ((sg_gi σ_3 a0 9 6).bind fun x_5 => ((sg_pi σ_3 a0 9 6 (x_5 + 1)).bind fun σ_7 => ((sg_gi σ_7 a0 9 4).bind fun x_9 => ((sg_pi σ_7 a0 9 4 (x_9 + 1)).bind fun σ_11 => some σ_11))))))
set_option maxRecDepth 100000 in
set_option maxHeartbeats 4000000 in
theorem c_X7_countStep {l : Launch} {D : va_G} {L : List Nat} {tp : Nat → ClassId} {Z : sg_Z} {σ : sg_H} {a0 : Nat} {σr : sg_H} (hZ : sg_Zok Z) (h : f_X7_countStep tp a0 σ = some σr) : Met l yX7_countStep wsX7_countStep rm_X7_countStep (sg_P D tp L Z σ [.ref a0]) (sg_Qv D L σr) 0 0 (fun q => q ∈ L) := by
  unfold f_X7_countStep at h
  refine sg_ofW hZ (cc := cX7_countStep) (maxL := 1) (ret := none) (by decide) rfl (Nat.le_of_ble_eq_true rfl) ?_
  intro p e s m below meth c ls hC hW hl
  have hx := hC.1.1
  have hb := hC.1.2.1
  have hml := hC.1.2.2.1
  have hown := hC.1.2.2.2.1
  have hts := hC.1.2.2.2.2
  have hZ := hC.2.2.2.2.2.2
  have hl : lv_has ls 1 [(0, .ref a0)] := hl
  refine lv_aload_n hx hb dX7_countStep_0 rfl (lv_at hl 0 rfl) ?_
  refine lv_dup hx hb dX7_countStep_1 rfl ?_
  obtain ⟨x_1, e_2, h⟩ := sg_bd h
  refine sg_geti hC hW (T := TX7) (sg_cs kw_X7) rfl 5 (by decide) (sg_c kt_1_176) (fun _ z => z) e_2 dX7_countStep_2 ?_
  refine lv_iconst (v := 1) hx hb dX7_countStep_5 (by decide) ?_
  refine lv_iadd hx hb dX7_countStep_6 ?_
  obtain ⟨σ_3, e_4, h⟩ := sg_bd h
  refine sg_putv hC hW (T := TX7) (sg_cs kw_X7) tyX7 tyX7_ok nmX7 rfl 5 (by decide) (sg_c kt_1_176) (fun _ z => z) rfl (tyX7_ok 5 (by decide)) rfl rfl e_4 dX7_countStep_7 (fun H locs hW => ?_)
  refine lv_aload_n hx hb dX7_countStep_10 rfl (lv_at hl 0 rfl) ?_
  refine lv_dup hx hb dX7_countStep_11 rfl ?_
  obtain ⟨x_5, e_6, h⟩ := sg_bd h
  refine sg_geti hC hW (T := TX7) (sg_cs kw_X7) rfl 6 (by decide) (sg_c kt_1_178) (fun _ z => z) e_6 dX7_countStep_12 ?_
  refine lv_iconst (v := 1) hx hb dX7_countStep_15 (by decide) ?_
  refine lv_iadd hx hb dX7_countStep_16 ?_
  obtain ⟨σ_7, e_8, h⟩ := sg_bd h
  refine sg_putv hC hW (T := TX7) (sg_cs kw_X7) tyX7 tyX7_ok nmX7 rfl 6 (by decide) (sg_c kt_1_178) (fun _ z => z) rfl (tyX7_ok 6 (by decide)) rfl rfl e_8 dX7_countStep_17 (fun H locs hW => ?_)
  refine lv_aload_n hx hb dX7_countStep_20 rfl (lv_at hl 0 rfl) ?_
  refine lv_dup hx hb dX7_countStep_21 rfl ?_
  obtain ⟨x_9, e_10, h⟩ := sg_bd h
  refine sg_geti hC hW (T := TX7) (sg_cs kw_X7) rfl 4 (by decide) (sg_c kt_1_173) (fun _ z => z) e_10 dX7_countStep_22 ?_
  refine lv_iconst (v := 1) hx hb dX7_countStep_25 (by decide) ?_
  refine lv_iadd hx hb dX7_countStep_26 ?_
  obtain ⟨σ_11, e_12, h⟩ := sg_bd h
  refine sg_putv hC hW (T := TX7) (sg_cs kw_X7) tyX7 tyX7_ok nmX7 rfl 4 (by decide) (sg_c kt_1_173) (fun _ z => z) rfl (tyX7_ok 4 (by decide)) rfl rfl e_12 dX7_countStep_27 (fun H locs hW => ?_)
  cases h
  exact sg_vret hC hW dX7_countStep_30
/-- MoonlitFloor$Walker.pause()V -/
abbrev rm_X7_pause : Room := ({ frames := 0, cells := 0, slots := 0, locals := 0 } : Room)
abbrev wsX7_pause : List Cond := Cond.code yX7_pause cX7_pause 1 none :: sg_T
def f_X7_pause (tp : Nat → ClassId) (a0 : Nat) (σ : sg_H) : Option sg_H := ((sg_pi σ a0 9 3 1).bind fun σ_1 => ((sg_pi σ_1 a0 9 4 0).bind fun σ_3 => some σ_3))
set_option maxRecDepth 100000 in
set_option maxHeartbeats 4000000 in
theorem c_X7_pause {l : Launch} {D : va_G} {L : List Nat} {tp : Nat → ClassId} {Z : sg_Z} {σ : sg_H} {a0 : Nat} {σr : sg_H} (hZ : sg_Zok Z) (h : f_X7_pause tp a0 σ = some σr) : Met l yX7_pause wsX7_pause rm_X7_pause (sg_P D tp L Z σ [.ref a0]) (sg_Qv D L σr) 0 0 (fun q => q ∈ L) := by
  unfold f_X7_pause at h
  refine sg_ofW hZ (cc := cX7_pause) (maxL := 1) (ret := none) (by decide) rfl (Nat.le_of_ble_eq_true rfl) ?_
  intro p e s m below meth c ls hC hW hl
  have hx := hC.1.1
  have hb := hC.1.2.1
  have hml := hC.1.2.2.1
  have hown := hC.1.2.2.2.1
  have hts := hC.1.2.2.2.2
  have hZ := hC.2.2.2.2.2.2
  have hl : lv_has ls 1 [(0, .ref a0)] := hl
  refine lv_aload_n hx hb dX7_pause_0 rfl (lv_at hl 0 rfl) ?_
  refine lv_iconst (v := 1) hx hb dX7_pause_1 (by decide) ?_
  obtain ⟨σ_1, e_2, h⟩ := sg_bd h
  refine sg_putv hC hW (T := TX7) (sg_cs kw_X7) tyX7 tyX7_ok nmX7 rfl 3 (by decide) (sg_c kt_1_170) (fun _ z => z) rfl (tyX7_ok 3 (by decide)) rfl rfl e_2 dX7_pause_2 (fun H locs hW => ?_)
  refine lv_aload_n hx hb dX7_pause_5 rfl (lv_at hl 0 rfl) ?_
  refine lv_iconst (v := 0) hx hb dX7_pause_6 (by decide) ?_
  obtain ⟨σ_3, e_4, h⟩ := sg_bd h
  refine sg_putv hC hW (T := TX7) (sg_cs kw_X7) tyX7 tyX7_ok nmX7 rfl 4 (by decide) (sg_c kt_1_173) (fun _ z => z) rfl (tyX7_ok 4 (by decide)) rfl rfl e_4 dX7_pause_7 (fun H locs hW => ?_)
  cases h
  exact sg_vret hC hW dX7_pause_10
/-- MoonlitFloor$Walker.fall(I)V -/
abbrev rm_X7_fall : Room := ({ frames := 0, cells := 0, slots := 0, locals := 0 } : Room)
abbrev wsX7_fall : List Cond := Cond.code yX7_fall cX7_fall 2 none :: sg_T
def f_X7_fall (tp : Nat → ClassId) (a0 : Nat) (x1 : Int32) (σ : sg_H) : Option sg_H := ((sg_gi σ a0 9 8).bind fun x_1 => ((sg_pi σ a0 9 8 (x_1 + 1)).bind fun σ_3 => ((sg_pi σ_3 a0 9 3 x1).bind fun σ_5 => ((sg_pi σ_5 a0 9 4 0).bind fun σ_7 => some σ_7))))
set_option maxRecDepth 100000 in
set_option maxHeartbeats 4000000 in
theorem c_X7_fall {l : Launch} {D : va_G} {L : List Nat} {tp : Nat → ClassId} {Z : sg_Z} {σ : sg_H} {a0 : Nat} {x1 : Int32} {σr : sg_H} (hZ : sg_Zok Z) (h : f_X7_fall tp a0 x1 σ = some σr) : Met l yX7_fall wsX7_fall rm_X7_fall (sg_P D tp L Z σ [.ref a0, .int x1]) (sg_Qv D L σr) 0 0 (fun q => q ∈ L) := by
  unfold f_X7_fall at h
  refine sg_ofW hZ (cc := cX7_fall) (maxL := 2) (ret := none) (by decide) rfl (Nat.le_of_ble_eq_true rfl) ?_
  intro p e s m below meth c ls hC hW hl
  have hx := hC.1.1
  have hb := hC.1.2.1
  have hml := hC.1.2.2.1
  have hown := hC.1.2.2.2.1
  have hts := hC.1.2.2.2.2
  have hZ := hC.2.2.2.2.2.2
  have hl : lv_has ls 2 [(0, .ref a0), (1, .int x1)] := hl
  refine lv_aload_n hx hb dX7_fall_0 rfl (lv_at hl 0 rfl) ?_
  refine lv_dup hx hb dX7_fall_1 rfl ?_
  obtain ⟨x_1, e_2, h⟩ := sg_bd h
  refine sg_geti hC hW (T := TX7) (sg_cs kw_X7) rfl 8 (by decide) (sg_c kt_1_183) (fun _ z => z) e_2 dX7_fall_2 ?_
  refine lv_iconst (v := 1) hx hb dX7_fall_5 (by decide) ?_
  refine lv_iadd hx hb dX7_fall_6 ?_
  obtain ⟨σ_3, e_4, h⟩ := sg_bd h
  refine sg_putv hC hW (T := TX7) (sg_cs kw_X7) tyX7 tyX7_ok nmX7 rfl 8 (by decide) (sg_c kt_1_183) (fun _ z => z) rfl (tyX7_ok 8 (by decide)) rfl rfl e_4 dX7_fall_7 (fun H locs hW => ?_)
  refine lv_aload_n hx hb dX7_fall_10 rfl (lv_at hl 0 rfl) ?_
  refine lv_iload_n hx hb dX7_fall_11 rfl (lv_at hl 1 rfl) ?_
  obtain ⟨σ_5, e_6, h⟩ := sg_bd h
  refine sg_putv hC hW (T := TX7) (sg_cs kw_X7) tyX7 tyX7_ok nmX7 rfl 3 (by decide) (sg_c kt_1_170) (fun _ z => z) rfl (tyX7_ok 3 (by decide)) rfl rfl e_6 dX7_fall_12 (fun H locs hW => ?_)
  refine lv_aload_n hx hb dX7_fall_15 rfl (lv_at hl 0 rfl) ?_
  refine lv_iconst (v := 0) hx hb dX7_fall_16 (by decide) ?_
  obtain ⟨σ_7, e_8, h⟩ := sg_bd h
  refine sg_putv hC hW (T := TX7) (sg_cs kw_X7) tyX7 tyX7_ok nmX7 rfl 4 (by decide) (sg_c kt_1_173) (fun _ z => z) rfl (tyX7_ok 4 (by decide)) rfl rfl e_8 dX7_fall_17 (fun H locs hW => ?_)
  cases h
  exact sg_vret hC hW dX7_fall_20
