/-! THE SHADOW: a heap as a partial map from addresses to cells; each method that makes nothing has a shadow function over it (05 and on), and the machine does what the shadow says -/
section SG0
theorem sg_c {x w : Cond} (h : w ∈ sg_T) : w ∈ x :: sg_T := List.mem_cons_of_mem _ h
theorem sg_cs {x : Cond} {ws : List Cond} (h : ∀ w ∈ ws, w ∈ sg_T) : ∀ w ∈ ws, w ∈ x :: sg_T := fun w hw => sg_c (h w hw)
theorem kw_J0 : ∀ w ∈ u_ws RJ0 TJ0 4, w ∈ sg_T := List.forall_mem_cons.mpr ⟨kt_7_148, List.forall_mem_cons.mpr ⟨kt_7_150, List.forall_mem_cons.mpr ⟨kt_7_152, List.forall_mem_cons.mpr ⟨kt_7_154, fun _ h => nomatch h⟩⟩⟩⟩
theorem kw_J4 : ∀ w ∈ u_ws RJ4 TJ4 4, w ∈ sg_T := List.forall_mem_cons.mpr ⟨kt_1_64, List.forall_mem_cons.mpr ⟨kt_1_66, List.forall_mem_cons.mpr ⟨kt_1_68, List.forall_mem_cons.mpr ⟨kt_1_70, fun _ h => nomatch h⟩⟩⟩⟩
theorem kw_Jx00060 : ∀ w ∈ u_ws RJx00060 TJx00060 6, w ∈ sg_T := List.forall_mem_cons.mpr ⟨kt_7_183, List.forall_mem_cons.mpr ⟨kt_7_184, List.forall_mem_cons.mpr ⟨kt_7_185, List.forall_mem_cons.mpr ⟨kt_7_186, List.forall_mem_cons.mpr ⟨kt_7_187, List.forall_mem_cons.mpr ⟨kt_7_198, fun _ h => nomatch h⟩⟩⟩⟩⟩⟩
theorem kw_Jx7c733 : ∀ w ∈ u_ws RJx7c733 TJx7c733 6, w ∈ sg_T := List.forall_mem_cons.mpr ⟨kt_7_158, List.forall_mem_cons.mpr ⟨kt_7_159, List.forall_mem_cons.mpr ⟨kt_7_160, List.forall_mem_cons.mpr ⟨kt_7_161, List.forall_mem_cons.mpr ⟨kt_7_162, List.forall_mem_cons.mpr ⟨kt_7_163, fun _ h => nomatch h⟩⟩⟩⟩⟩⟩
theorem kw_X1 : ∀ w ∈ u_ws RX1 TX1 5, w ∈ sg_T := List.forall_mem_cons.mpr ⟨kt_2_130, List.forall_mem_cons.mpr ⟨kt_2_132, List.forall_mem_cons.mpr ⟨kt_2_134, List.forall_mem_cons.mpr ⟨kt_2_136, List.forall_mem_cons.mpr ⟨kt_2_138, fun _ h => nomatch h⟩⟩⟩⟩⟩
theorem kw_X2 : ∀ w ∈ u_ws RX2 TX2 13, w ∈ sg_T := List.forall_mem_cons.mpr ⟨kt_1_127, List.forall_mem_cons.mpr ⟨kt_1_129, List.forall_mem_cons.mpr ⟨kt_1_131, List.forall_mem_cons.mpr ⟨kt_1_133, List.forall_mem_cons.mpr ⟨kt_1_135, List.forall_mem_cons.mpr ⟨kt_1_137, List.forall_mem_cons.mpr ⟨kt_1_139, List.forall_mem_cons.mpr ⟨kt_1_141, List.forall_mem_cons.mpr ⟨kt_1_143, List.forall_mem_cons.mpr ⟨kt_1_145, List.forall_mem_cons.mpr ⟨kt_1_147, List.forall_mem_cons.mpr ⟨kt_1_149, List.forall_mem_cons.mpr ⟨kt_1_151, fun _ h => nomatch h⟩⟩⟩⟩⟩⟩⟩⟩⟩⟩⟩⟩⟩
theorem kw_X3 : ∀ w ∈ u_ws RX3 TX3 3, w ∈ sg_T := List.forall_mem_cons.mpr ⟨kt_1_216, List.forall_mem_cons.mpr ⟨kt_1_218, List.forall_mem_cons.mpr ⟨kt_1_220, fun _ h => nomatch h⟩⟩⟩
theorem kw_X4 : ∀ w ∈ u_ws RX4 TX4 11, w ∈ sg_T := List.forall_mem_cons.mpr ⟨kt_2_92, List.forall_mem_cons.mpr ⟨kt_2_94, List.forall_mem_cons.mpr ⟨kt_2_96, List.forall_mem_cons.mpr ⟨kt_2_98, List.forall_mem_cons.mpr ⟨kt_2_100, List.forall_mem_cons.mpr ⟨kt_2_102, List.forall_mem_cons.mpr ⟨kt_2_104, List.forall_mem_cons.mpr ⟨kt_2_106, List.forall_mem_cons.mpr ⟨kt_2_108, List.forall_mem_cons.mpr ⟨kt_2_110, List.forall_mem_cons.mpr ⟨kt_2_112, fun _ h => nomatch h⟩⟩⟩⟩⟩⟩⟩⟩⟩⟩⟩
theorem kw_X6 : ∀ w ∈ u_ws RX6 TX6 5, w ∈ sg_T := List.forall_mem_cons.mpr ⟨kt_2_68, List.forall_mem_cons.mpr ⟨kt_2_70, List.forall_mem_cons.mpr ⟨kt_2_72, List.forall_mem_cons.mpr ⟨kt_2_74, List.forall_mem_cons.mpr ⟨kt_2_76, fun _ h => nomatch h⟩⟩⟩⟩⟩
theorem kw_X7 : ∀ w ∈ u_ws RX7 TX7 9, w ∈ sg_T := List.forall_mem_cons.mpr ⟨kt_1_185, List.forall_mem_cons.mpr ⟨kt_1_187, List.forall_mem_cons.mpr ⟨kt_1_189, List.forall_mem_cons.mpr ⟨kt_1_191, List.forall_mem_cons.mpr ⟨kt_1_193, List.forall_mem_cons.mpr ⟨kt_1_195, List.forall_mem_cons.mpr ⟨kt_1_197, List.forall_mem_cons.mpr ⟨kt_1_199, List.forall_mem_cons.mpr ⟨kt_1_201, fun _ h => nomatch h⟩⟩⟩⟩⟩⟩⟩⟩⟩
theorem kw_X8 : ∀ w ∈ u_ws RX8 TX8 14, w ∈ sg_T := List.forall_mem_cons.mpr ⟨kt_2_20, List.forall_mem_cons.mpr ⟨kt_2_22, List.forall_mem_cons.mpr ⟨kt_2_24, List.forall_mem_cons.mpr ⟨kt_2_26, List.forall_mem_cons.mpr ⟨kt_2_28, List.forall_mem_cons.mpr ⟨kt_2_30, List.forall_mem_cons.mpr ⟨kt_2_32, List.forall_mem_cons.mpr ⟨kt_2_34, List.forall_mem_cons.mpr ⟨kt_2_36, List.forall_mem_cons.mpr ⟨kt_2_38, List.forall_mem_cons.mpr ⟨kt_2_40, List.forall_mem_cons.mpr ⟨kt_2_42, List.forall_mem_cons.mpr ⟨kt_2_44, List.forall_mem_cons.mpr ⟨kt_2_46, fun _ h => nomatch h⟩⟩⟩⟩⟩⟩⟩⟩⟩⟩⟩⟩⟩⟩
theorem kw_X9 : ∀ w ∈ u_ws RX9 TX9 8, w ∈ sg_T := List.forall_mem_cons.mpr ⟨kt_2_149, List.forall_mem_cons.mpr ⟨kt_2_151, List.forall_mem_cons.mpr ⟨kt_2_153, List.forall_mem_cons.mpr ⟨kt_2_155, List.forall_mem_cons.mpr ⟨kt_2_157, List.forall_mem_cons.mpr ⟨kt_2_159, List.forall_mem_cons.mpr ⟨kt_2_161, List.forall_mem_cons.mpr ⟨kt_2_163, fun _ h => nomatch h⟩⟩⟩⟩⟩⟩⟩⟩
theorem kw_X10 : ∀ w ∈ u_ws RX10 TX10 22, w ∈ sg_T := List.forall_mem_cons.mpr ⟨kt_8_135, List.forall_mem_cons.mpr ⟨kt_8_137, List.forall_mem_cons.mpr ⟨kt_8_139, List.forall_mem_cons.mpr ⟨kt_8_141, List.forall_mem_cons.mpr ⟨kt_8_143, List.forall_mem_cons.mpr ⟨kt_8_145, List.forall_mem_cons.mpr ⟨kt_8_147, List.forall_mem_cons.mpr ⟨kt_8_149, List.forall_mem_cons.mpr ⟨kt_8_151, List.forall_mem_cons.mpr ⟨kt_8_153, List.forall_mem_cons.mpr ⟨kt_8_155, List.forall_mem_cons.mpr ⟨kt_8_157, List.forall_mem_cons.mpr ⟨kt_8_159, List.forall_mem_cons.mpr ⟨kt_8_161, List.forall_mem_cons.mpr ⟨kt_8_163, List.forall_mem_cons.mpr ⟨kt_8_165, List.forall_mem_cons.mpr ⟨kt_8_167, List.forall_mem_cons.mpr ⟨kt_8_169, List.forall_mem_cons.mpr ⟨kt_8_171, List.forall_mem_cons.mpr ⟨kt_8_173, List.forall_mem_cons.mpr ⟨kt_8_175, List.forall_mem_cons.mpr ⟨kt_8_177, fun _ h => nomatch h⟩⟩⟩⟩⟩⟩⟩⟩⟩⟩⟩⟩⟩⟩⟩⟩⟩⟩⟩⟩⟩⟩
abbrev sg_H : Type := Nat → Option va_E
def sg_up (σ : sg_H) (a : Nat) (e : va_E) : sg_H := fun q => if q = a then some e else σ q
def sg_f (σ : sg_H) : Nat → va_E := fun a => (σ a).getD (.inr (0, []))
theorem sg_f_up (σ : sg_H) (a : Nat) (e : va_E) : sg_f (sg_up σ a e) = va_up (sg_f σ) a e := by
  funext q
  simp only [sg_f, sg_up, va_up]
  split <;> rfl
/-- the links of one nest: private members of MoonlitFloor and of its nested classes, called from one another -/
def sg_nl : List (String × Nat × MethodName) := [(RX8, 126, yX9_at), (RX8, 182, yX9_put), (RX3, 36, yX9_at), (RX3, 40, yX9_put), (RX3, 22, yX9_copy), (RX2, 58, yX9_copy), (RX8, 88, yX9_copy), (RX6, 31, yX9_at), (RX6, 88, yX9_put), (RX4, 144, yX9_at), (RX4, 148, yX9_put), (RX4, 283, yX9_countMarked), (RX1, 46, yX9_put), (RX1, 50, yX9_at), (RX1, 24, yX8_init), (RX9, 22, yX8_init), (RX8, 11, yX2_init), (RX8, 20, yX7_init), (RX8, 27, yX3_init), (RX4, 11, yX6_init)]
def sg_N (U : State) : Prop := ∀ q ∈ sg_nl, va_Nw (.methodLinkNest q.1 q.2.1 q.2.2 RX9) U
theorem sg_N.same {u U : State} (h : u.vm = U.vm) (hN : sg_N u) : sg_N U := fun q hq => va_Nw.same rfl h (hN q hq)
theorem sg_N.warm {s U : State} (hW : s.WarmedH U.vm) (hN : sg_N s) : sg_N U := fun q hq => va_Nw.warmM hW (hN q hq)
/-- what stands in the heap and is never written: of it we only need that it goes through calls and writes elsewhere -/
abbrev sg_Z : Type := (Nat → Prop) → State → Heap → Prop
def sg_Zok (Z : sg_Z) : Prop := (∀ (B : Nat → Prop) (u U : State) (H : Heap), u.vm.Alike U.vm → Z B u H → Z B U H) ∧ (∀ (B : Nat → Prop) (U : State) (H H1 : Heap), Z B U H → (∀ a : Nat, a < H.size → ¬ B a → H1[a]? = H[a]?) → Z B U H1) ∧ ∀ (B B1 : Nat → Prop) (U : State) (H : Heap), Z B U H → (∀ q, B1 q → B q) → Z B1 U H
def sg_tys (tp : Nat → ClassId) : List (ClassId × FieldType) := [(tp 0, .int), (tp 1, .long), (tp 2, .byte), (tp 3, .boolean), (tp 4, .double), (tp 5, .object RX8), (tp 6, .object RX5)]
/-- the heap holds the shadow's cells, at the addresses L -/
def sg_I (D : va_G) (L : List Nat) (σ : sg_H) (H : Heap) : Prop := (∀ a, a ∈ L ↔ σ a ≠ none) ∧ va_P D vwCl (va_pl L (sg_f σ)) H ∧ va_D (fun q => q ∈ L) (va_pl L (sg_f σ))
def sg_W (D : va_G) (L : List Nat) (A : Nat → Prop) (H0 : Heap) (σ : sg_H) (H : Heap) (locs : List Loc) : Prop := sg_I D L σ H ∧ ((∀ q, q ∈ L → A q) ∧ ∀ q, A q → q ∈ L ∨ H0.size ≤ q) ∧ va_S A H0 H locs
theorem sg_in {D : va_G} {L : List Nat} {σ : sg_H} {H : Heap} (hI : sg_I D L σ H) {a : Nat} {e : va_E} (h : σ a = some e) : a ∈ L := (hI.1 a).mpr (by rw [h]; exact fun q => by cases q)
theorem sg_fa {σ : sg_H} {a : Nat} {e : va_E} (h : σ a = some e) : sg_f σ a = e := by unfold sg_f; rw [h]; rfl
theorem sg_at {D : va_G} {L : List Nat} {σ : sg_H} {H : Heap} (hI : sg_I D L σ H) {a : Nat} {e : va_E} (h : σ a = some e) : ∃ k : Nat, (va_pl L (sg_f σ))[k]? = some (a, e) := by
  obtain ⟨k, hk⟩ := va_pl_get (X := []) (f := sg_f σ) (sg_in hI h)
  rw [sg_fa h] at hk
  exact ⟨k, hk⟩
theorem sg_setI {D : va_G} {L : List Nat} {σ : sg_H} {H H1 : Heap} (hI : sg_I D L σ H) {a k : Nat} {e e' : va_E} (h : σ a = some e) (hk : (va_pl L (sg_f σ))[k]? = some (a, e)) (hP : va_P D vwCl ((va_pl L (sg_f σ)).set k (a, e')) H1) : sg_I D L (sg_up σ a e') H1 := by
  have es : (va_pl L (sg_f σ)).set k (a, e') = va_pl L (sg_f (sg_up σ a e')) := by
    rw [sg_f_up]
    exact va_pl_set (X := []) (e := e') hI.2.2 (sg_in hI h) (by rw [sg_fa h]; exact hk)
  have hD := hI.2.2.set (e := e') hk
  rw [es] at hP hD
  refine ⟨fun q => ?_, hP, hD⟩
  rw [hI.1 q]
  unfold sg_up
  split
  · rename_i hq
    subst hq
    rw [h]
    simp
  · rfl
theorem sg_WD {D : va_G} {L : List Nat} {A : Nat → Prop} {H0 H : Heap} {σ : sg_H} {locs : List Loc} (h : sg_W D L A H0 σ H locs) : va_D A (va_pl L (sg_f σ)) := h.1.2.2.weaken (fun _ q _ z => h.2.1.1 q.1 z)
/-! reading and writing the shadow -/
def sg_gv (σ : sg_H) (a ci k : Nat) : Option Value := match σ a with
  | some (.inr (c, fs)) => if c = ci then fs[k]? else none
  | _ => none
def sg_gi (σ : sg_H) (a ci k : Nat) : Option Int32 := match sg_gv σ a ci k with
  | some (.int x) => some x
  | _ => none
def sg_ga (σ : sg_H) (a ci k : Nat) : Option Nat := match sg_gv σ a ci k with
  | some (.ref x) => some x
  | _ => none
def sg_pv (σ : sg_H) (a ci k : Nat) (v : Value) : Option sg_H := match σ a with
  | some (.inr (c, fs)) => if c = ci ∧ k < fs.length then some (sg_up σ a (.inr (c, fs.set k v))) else none
  | _ => none
def sg_pi (σ : sg_H) (a ci k : Nat) (x : Int32) : Option sg_H := sg_pv σ a ci k (.int x)
def sg_pz (σ : sg_H) (a ci k : Nat) (x : Int32) : Option sg_H := if x = 0 ∨ x = 1 then sg_pv σ a ci k (.int x) else none
def sg_pa (σ : sg_H) (a ci k : Nat) (x : Nat) : Option sg_H := sg_pv σ a ci k (.ref x)
def sg_is (σ : sg_H) (a ci : Nat) : Bool := match σ a with
  | some (.inr (c, _)) => c == ci
  | _ => false
def sg_ar (σ : sg_H) (a : Nat) (c : ClassId) : Option vp_A := match σ a with
  | some (.inl (cA, x)) => if cA = c then some x else none
  | _ => none
def sg_ln (σ : sg_H) (a : Nat) (c : ClassId) : Option Int32 := match sg_ar σ a c with
  | some x => some (Int32.ofNat x.1)
  | _ => none
def sg_ld (σ : sg_H) (a : Nat) (c : ClassId) (i : Int32) : Option Int32 := match sg_ar σ a c with
  | some (n, .inl f) => if i < 0 ∨ n ≤ i.toNatClampNeg then none else some (f i.toNatClampNeg)
  | _ => none
def sg_ldl (σ : sg_H) (a : Nat) (c : ClassId) (i : Int32) : Option Int64 := match sg_ar σ a c with
  | some (n, .inr (.inl f)) => if i < 0 ∨ n ≤ i.toNatClampNeg then none else some (f i.toNatClampNeg)
  | _ => none
def sg_lda (σ : sg_H) (a : Nat) (c : ClassId) (i : Int32) : Option Nat := match sg_ar σ a c with
  | some (n, .inr (.inr (.inr (.inr f)))) => if i < 0 ∨ n ≤ i.toNatClampNeg then none else f i.toNatClampNeg
  | _ => none
def sg_st (σ : sg_H) (a : Nat) (c : ClassId) (i : Int32) (x : Int32) : Option sg_H := match sg_ar σ a c with
  | some (n, .inl f) => if i < 0 ∨ n ≤ i.toNatClampNeg then none else some (sg_up σ a (.inl (c, n, .inl (upd f i.toNatClampNeg x))))
  | _ => none
def sg_stl (σ : sg_H) (a : Nat) (c : ClassId) (i : Int32) (x : Int64) : Option sg_H := match sg_ar σ a c with
  | some (n, .inr (.inl f)) => if i < 0 ∨ n ≤ i.toNatClampNeg then none else some (sg_up σ a (.inl (c, n, .inr (.inl (vp_updL f i.toNatClampNeg x)))))
  | _ => none
theorem sg_gv_s {σ : sg_H} {a ci k : Nat} {v : Value} (h : sg_gv σ a ci k = some v) : ∃ fs, σ a = some (.inr (ci, fs)) ∧ fs[k]? = some v := by
  unfold sg_gv at h
  split at h
  · rename_i c fs e
    split at h
    · rename_i hc
      subst hc
      exact ⟨fs, e, h⟩
    · cases h
  · cases h
theorem sg_gi_s {σ : sg_H} {a ci k : Nat} {x : Int32} (h : sg_gi σ a ci k = some x) : sg_gv σ a ci k = some (.int x) := by
  unfold sg_gi at h
  split at h
  · rename_i y e
    cases h
    exact e
  · cases h
theorem sg_ga_s {σ : sg_H} {a ci k : Nat} {x : Nat} (h : sg_ga σ a ci k = some x) : sg_gv σ a ci k = some (.ref x) := by
  unfold sg_ga at h
  split at h
  · rename_i y e
    cases h
    exact e
  · cases h
theorem sg_pv_s {σ σ1 : sg_H} {a ci k : Nat} {v : Value} (h : sg_pv σ a ci k v = some σ1) : ∃ fs, σ a = some (.inr (ci, fs)) ∧ k < fs.length ∧ σ1 = sg_up σ a (.inr (ci, fs.set k v)) := by
  unfold sg_pv at h
  split at h
  · rename_i c fs e
    split at h
    · rename_i hc
      obtain ⟨hc, hk⟩ := hc
      subst hc
      cases h
      exact ⟨fs, e, hk, rfl⟩
    · cases h
  · cases h
theorem sg_is_s {σ : sg_H} {a ci : Nat} (h : sg_is σ a ci = true) : ∃ fs, σ a = some (.inr (ci, fs)) := by
  unfold sg_is at h
  split at h
  · rename_i c fs e
    have hc : c = ci := by simpa using h
    subst hc
    exact ⟨fs, e⟩
  · cases h
theorem sg_ar_s {σ : sg_H} {a : Nat} {c : ClassId} {x : vp_A} (h : sg_ar σ a c = some x) : σ a = some (.inl (c, x)) := by
  unfold sg_ar at h
  split at h
  · rename_i cA y e
    split at h
    · rename_i hc
      subst hc
      cases h
      exact e
    · cases h
  · cases h
theorem sg_ln_s {σ : sg_H} {a : Nat} {c : ClassId} {v : Int32} (h : sg_ln σ a c = some v) : ∃ x, σ a = some (.inl (c, x)) ∧ Int32.ofNat x.1 = v := by
  unfold sg_ln at h
  split at h
  · rename_i x e
    cases h
    exact ⟨x, sg_ar_s e, rfl⟩
  · cases h
theorem sg_ld_s {σ : sg_H} {a : Nat} {c : ClassId} {i v : Int32} (h : sg_ld σ a c i = some v) : ∃ n f, σ a = some (.inl (c, n, .inl f)) ∧ vp_in i n ∧ f i.toNatClampNeg = v := by
  unfold sg_ld at h
  split at h
  · rename_i n f e
    split at h
    · cases h
    · rename_i hi
      cases h
      exact ⟨n, f, sg_ar_s e, hi, rfl⟩
  · cases h
theorem sg_ldl_s {σ : sg_H} {a : Nat} {c : ClassId} {i : Int32} {v : Int64} (h : sg_ldl σ a c i = some v) : ∃ n f, σ a = some (.inl (c, n, .inr (.inl f))) ∧ vp_in i n ∧ f i.toNatClampNeg = v := by
  unfold sg_ldl at h
  split at h
  · rename_i n f e
    split at h
    · cases h
    · rename_i hi
      cases h
      exact ⟨n, f, sg_ar_s e, hi, rfl⟩
  · cases h
theorem sg_lda_s {σ : sg_H} {a : Nat} {c : ClassId} {i : Int32} {v : Nat} (h : sg_lda σ a c i = some v) : ∃ n f, σ a = some (.inl (c, n, .inr (.inr (.inr (.inr f))))) ∧ vp_in i n ∧ f i.toNatClampNeg = some v := by
  unfold sg_lda at h
  split at h
  · rename_i n f e
    split at h
    · cases h
    · rename_i hi
      exact ⟨n, f, sg_ar_s e, hi, h⟩
  · cases h
theorem sg_st_s {σ σ1 : sg_H} {a : Nat} {c : ClassId} {i x : Int32} (h : sg_st σ a c i x = some σ1) : ∃ n f, σ a = some (.inl (c, n, .inl f)) ∧ vp_in i n ∧ σ1 = sg_up σ a (.inl (c, n, .inl (upd f i.toNatClampNeg x))) := by
  unfold sg_st at h
  split at h
  · rename_i n f e
    split at h
    · cases h
    · rename_i hi
      cases h
      exact ⟨n, f, sg_ar_s e, hi, rfl⟩
  · cases h
theorem sg_stl_s {σ σ1 : sg_H} {a : Nat} {c : ClassId} {i : Int32} {x : Int64} (h : sg_stl σ a c i x = some σ1) : ∃ n f, σ a = some (.inl (c, n, .inr (.inl f))) ∧ vp_in i n ∧ σ1 = sg_up σ a (.inl (c, n, .inr (.inl (vp_updL f i.toNatClampNeg x)))) := by
  unfold sg_stl at h
  split at h
  · rename_i n f e
    split at h
    · cases h
    · rename_i hi
      cases h
      exact ⟨n, f, sg_ar_s e, hi, rfl⟩
  · cases h
def sg_cp (σ : sg_H) (a : Nat) (c : ClassId) (sp : Int32) (b : Nat) (dp n : Int32) : Option sg_H := match sg_ar σ a c, sg_ar σ b c with
  | some (n0, .inl f), some (n1, .inl g) => if sp < 0 ∨ dp < 0 ∨ n < 0 ∨ n0 < sp.toNatClampNeg + n.toNatClampNeg ∨ n1 < dp.toNatClampNeg + n.toNatClampNeg then none else some (sg_up σ b (.inl (c, n1, .inl (va_cpy f g sp.toNatClampNeg dp.toNatClampNeg n.toNatClampNeg))))
  | _, _ => none
theorem sg_cp_s {σ σ1 : sg_H} {a b : Nat} {c : ClassId} {sp dp n : Int32} (h : sg_cp σ a c sp b dp n = some σ1) : ∃ n0 f n1 g, σ a = some (.inl (c, n0, .inl f)) ∧ σ b = some (.inl (c, n1, .inl g)) ∧ ¬ sp < 0 ∧ ¬ dp < 0 ∧ ¬ n < 0 ∧ sp.toNatClampNeg + n.toNatClampNeg ≤ n0 ∧ dp.toNatClampNeg + n.toNatClampNeg ≤ n1 ∧ σ1 = sg_up σ b (.inl (c, n1, .inl (va_cpy f g sp.toNatClampNeg dp.toNatClampNeg n.toNatClampNeg))) := by
  unfold sg_cp at h
  split at h
  · rename_i n0 f n1 g e1 e2
    split at h
    · cases h
    · rename_i hi
      cases h
      exact ⟨n0, f, n1, g, sg_ar_s e1, sg_ar_s e2, fun q => hi (Or.inl q), fun q => hi (Or.inr (Or.inl q)), fun q => hi (Or.inr (Or.inr (Or.inl q))), Nat.not_lt.mp fun q => hi (Or.inr (Or.inr (Or.inr (Or.inl q)))), Nat.not_lt.mp fun q => hi (Or.inr (Or.inr (Or.inr (Or.inr q)))), rfl⟩
  · cases h
theorem sg_bd {α β : Type} {x : Option α} {f : α → Option β} {r : β} (h : x.bind f = some r) : ∃ v, x = some v ∧ f v = some r := by
  cases x with
  | none => cases h
  | some v => exact ⟨v, rfl, h⟩
theorem sg_t {α : Type} {c : Prop} {d : Decidable c} {a b r : Option α} (h : @ite _ c d a b = r) (hc : c) : a = r := by rw [if_pos hc] at h; exact h
theorem sg_e {α : Type} {c : Prop} {d : Decidable c} {a b r : Option α} (h : @ite _ c d a b = r) (hc : ¬ c) : b = r := by rw [if_neg hc] at h; exact h
theorem sg_tn {α : Type} {c : Prop} {d : Decidable c} {a : Option α} {r : α} (h : @ite _ c d none a = some r) : ¬ c ∧ a = some r := by
  by_cases hc : c
  · rw [if_pos hc] at h; cases h
  · rw [if_neg hc] at h; exact ⟨hc, h⟩
theorem sg_tk {α : Type} {c : Prop} {d : Decidable c} {a : Option α} {r : α} (h : @ite _ c d a none = some r) : c ∧ a = some r := by
  by_cases hc : c
  · rw [if_pos hc] at h; exact ⟨hc, h⟩
  · rw [if_neg hc] at h; cases h
end SG0
section SG1
variable {p : Program} {l : Launch} {e : Env} {R : Room} {s : State} {m : MethodId} {args : Array Value} {below : List Frame} {meth : Method} {c : Code} {H : Heap} {locs : List Loc} {cells slots : Nat} {Q : State → Prop}
variable {cc : ByteArray} {pc : Nat} {ls : Array Slot} {rest : List Value} {D : va_G} {L : List Nat} {A : Nat → Prop} {H0 : Heap} {σ σ1 : sg_H} {tp : Nat → ClassId} {Z : sg_Z} {own : String} {Ts : List Cond} {nL : Nat} {ret : Option FieldType}
/-- what a walk has at hand all along -/
def sg_C (p : Program) (c : Code) (cc : ByteArray) (nL : Nat) (s : State) (m : MethodId) (meth : Method) (args : Array Value) (Ts : List Cond) (own : String) (ret : Option FieldType) (D : va_G) (tp : Nat → ClassId) (L : List Nat) (Z : sg_Z) : Prop :=
  CallFix p m c cc nL s args Ts own ∧ meth.sig.returnType = ret ∧ meth.locks = false ∧ va_K D vwCl (sg_tys tp) s ∧ sg_N s ∧ Z (fun q => q ∈ L) s s.heap ∧ sg_Zok Z
def sg_P (D : va_G) (tp : Nat → ClassId) (L : List Nat) (Z : sg_Z) (σ : sg_H) (av : List Value) : Array Value → State → Prop := va_Pc av (fun U => sg_I D L σ U.heap ∧ va_K D vwCl (sg_tys tp) U ∧ sg_N U ∧ Z (fun q => q ∈ L) U U.heap)
def sg_Qi (D : va_G) (L : List Nat) (r : Int32) (σ : sg_H) : Array Value → State → Outcome → State → Prop := va_Qi (fun (x : Int32) (_ : Unit) => x = r) (fun _ t => sg_I D L σ t.heap) (fun q => q ∈ L)
def sg_Ql (D : va_G) (L : List Nat) (r : Int64) (σ : sg_H) : Array Value → State → Outcome → State → Prop := va_Ql (fun (x : Int64) (_ : Unit) => x = r) (fun _ t => sg_I D L σ t.heap) (fun q => q ∈ L)
def sg_Qv (D : va_G) (L : List Nat) (σ : sg_H) : Array Value → State → Outcome → State → Prop := va_Qv (fun (_ : Unit) => True) (fun _ t => sg_I D L σ t.heap) (fun q => q ∈ L)
def sg_Qa (D : va_G) (L : List Nat) (r : Nat) (σ : sg_H) : Array Value → State → Outcome → State → Prop := va_Qr (fun (_ : Unit) => True) (fun _ a t => a = r ∧ sg_I D L σ t.heap) (fun q => q ∈ L)
theorem sg_ofW {y : MethodName} {ws ws' : List Cond} {rm : Room} {maxL : Nat} {av : List Value} {Qc : Array Value → State → Outcome → State → Prop} (hZ : sg_Zok Z) (hy : plainName y.cls = true) (hw : ws = Cond.code y cc maxL ret :: ws') (hle : (lg_sl av).length ≤ maxL)
    (body : ∀ (p : Program) (e : Env) (s : State) (m : MethodId) (below : List Frame) (meth : Method) (c : Code) (ls : Array Slot), sg_C p c cc maxL s m meth av.toArray ws y.cls ret D tp L Z → sg_W D L (fun q => q ∈ L) s.heap σ s.heap [] → lv_has ls maxL (lv_args 0 av) →
      W p l e rm s m av.toArray below meth c s.heap [] 0 0 (MQ below Qc av.toArray s 0 0 (fun q => q ∈ L)) (F0 m 0 ls [])) : Met l y ws rm (sg_P D tp L Z σ av) Qc 0 0 (fun q => q ∈ L) := by
  refine Met.ofW (cc := cc) (maxL := maxL) (ret := ret) hy hw ?_
  intro p e s m args below meth c s₁ B hml hv
  obtain ⟨rfl, hI, hK, hN, hE⟩ := hv
  have hl := lv_entry av (n := maxL) hle
  rw [lg_entry_eq]
  exact body p e s m below meth c _ ⟨⟨B.exec, B.bytes, hml, findClass_of_methodNamed B.named, atoms_spec (ws := ws) B.pre⟩, B.returns, B.notSynchronized, hK, hN, hE, hZ⟩ ⟨hI, ⟨fun _ h => h, fun _ h => Or.inl h⟩, va_S.rf⟩ hl
theorem sg_geti (hC : sg_C p c cc nL s m meth args Ts own ret D tp L Z) (hW : sg_W D L A H0 σ H locs) {ref C : String} {T : u_T} {N ci index : Nat} (hin : ∀ w ∈ u_ws C T N, w ∈ Ts) (hc : vwCl[ci]? = some (C, T, N)) (k : Nat) (hk : k < N) (hlink : Cond.fieldLink own index ref (T k).2.1 (T k).2.2.1 ∈ Ts) (hsame : ∀ x, s.fieldFound? (T k).1 (T k).2.1 (T k).2.2.1 = some x → s.fieldFound? ref (T k).2.1 (T k).2.2.1 = some x) {a : Nat} {x : Int32} (h : sg_gi σ a ci k = some x) (hdg : decode cc pc = .ok (.getfield index, 3))
    (kk : W p l e R s m args below meth c H locs cells slots Q (F0 m (pc + 3) ls (.int x :: rest))) : W p l e R s m args below meth c H locs cells slots Q (F0 m pc ls (.ref a :: rest)) := by
  obtain ⟨⟨hx, hb, -, hown, hts⟩, -, -, hK, -⟩ := hC
  obtain ⟨fs, he, hv⟩ := sg_gv_s (sg_gi_s h)
  obtain ⟨q, hq⟩ := sg_at hW.1 he
  exact va_get hx hb hts hin hown hK hW.1.2.1 q hq hc k hk (hts _ hlink) hsame hv hdg kk
theorem sg_geta (hC : sg_C p c cc nL s m meth args Ts own ret D tp L Z) (hW : sg_W D L A H0 σ H locs) {ref C : String} {T : u_T} {N ci index : Nat} (hin : ∀ w ∈ u_ws C T N, w ∈ Ts) (hc : vwCl[ci]? = some (C, T, N)) (k : Nat) (hk : k < N) (hlink : Cond.fieldLink own index ref (T k).2.1 (T k).2.2.1 ∈ Ts) (hsame : ∀ x, s.fieldFound? (T k).1 (T k).2.1 (T k).2.2.1 = some x → s.fieldFound? ref (T k).2.1 (T k).2.2.1 = some x) {a x : Nat} (h : sg_ga σ a ci k = some x) (hdg : decode cc pc = .ok (.getfield index, 3))
    (kk : W p l e R s m args below meth c H locs cells slots Q (F0 m (pc + 3) ls (.ref x :: rest))) : W p l e R s m args below meth c H locs cells slots Q (F0 m pc ls (.ref a :: rest)) := by
  obtain ⟨⟨hx, hb, -, hown, hts⟩, -, -, hK, -⟩ := hC
  obtain ⟨fs, he, hv⟩ := sg_gv_s (sg_ga_s h)
  obtain ⟨q, hq⟩ := sg_at hW.1 he
  exact va_get hx hb hts hin hown hK hW.1.2.1 q hq hc k hk (hts _ hlink) hsame hv hdg kk
theorem sg_putv (hC : sg_C p c cc nL s m meth args Ts own ret D tp L Z) (hW : sg_W D L A H0 σ H locs) {ref C : String} {T : u_T} {N ci index : Nat} (hin : ∀ w ∈ u_ws C T N, w ∈ Ts) (ty0 : Nat → FieldType) (hty : ∀ k, k < N → parseFieldDescriptor (T k).2.2.1 = some (ty0 k)) (hnm : ∀ a, a < N → ∀ b, b < N → a ≠ b → (T a).2.1 ≠ (T b).2.1) (hc : vwCl[ci]? = some (C, T, N)) (k : Nat) (hk : k < N) (hlink : Cond.fieldLink own index ref (T k).2.1 (T k).2.2.1 ∈ Ts) (hsame : ∀ x, s.fieldFound? (T k).1 (T k).2.1 (T k).2.2.1 = some x → s.fieldFound? ref (T k).2.1 (T k).2.2.1 = some x) (hfin : (T k).2.2.2 = false) {ty : FieldType} {v : Value} (hd : parseFieldDescriptor (T k).2.2.1 = some ty) (hn : narrow ty v = v) (hfit : fits ty v = true) {a : Nat} (h : sg_pv σ a ci k v = some σ1) (hdg : decode cc pc = .ok (.putfield index, 3))
    (kk : ∀ (H1 : Heap) (locs1 : List Loc), sg_W D L A H0 σ1 H1 locs1 → W p l e R s m args below meth c H1 locs1 cells slots Q (F0 m (pc + 3) ls rest)) : W p l e R s m args below meth c H locs cells slots Q (F0 m pc ls (v :: .ref a :: rest)) := by
  obtain ⟨⟨hx, hb, -, hown, hts⟩, -, -, hK, -⟩ := hC
  obtain ⟨fs, he, hl, rfl⟩ := sg_pv_s h
  obtain ⟨q, hq⟩ := sg_at hW.1 he
  exact va_put hx hb hts hin ty0 hty hnm hown hK hW.1.2.1 (sg_WD hW) hW.2.2 q hq hc k hk (hts _ hlink) hsame hfin hd hn hfit hl hdg (fun H1 locs1 hP _ hS => kk H1 locs1 ⟨sg_setI hW.1 he hq hP, hW.2.1, hS⟩)
theorem sg_putz (hC : sg_C p c cc nL s m meth args Ts own ret D tp L Z) (hW : sg_W D L A H0 σ H locs) {ref C : String} {T : u_T} {N ci index : Nat} (hin : ∀ w ∈ u_ws C T N, w ∈ Ts) (ty0 : Nat → FieldType) (hty : ∀ k, k < N → parseFieldDescriptor (T k).2.2.1 = some (ty0 k)) (hnm : ∀ a, a < N → ∀ b, b < N → a ≠ b → (T a).2.1 ≠ (T b).2.1) (hc : vwCl[ci]? = some (C, T, N)) (k : Nat) (hk : k < N) (hlink : Cond.fieldLink own index ref (T k).2.1 (T k).2.2.1 ∈ Ts) (hsame : ∀ x, s.fieldFound? (T k).1 (T k).2.1 (T k).2.2.1 = some x → s.fieldFound? ref (T k).2.1 (T k).2.2.1 = some x) (hfin : (T k).2.2.2 = false) (hd : parseFieldDescriptor (T k).2.2.1 = some .boolean) {x : Int32} {a : Nat} (h : sg_pz σ a ci k x = some σ1) (hdg : decode cc pc = .ok (.putfield index, 3))
    (kk : ∀ (H1 : Heap) (locs1 : List Loc), sg_W D L A H0 σ1 H1 locs1 → W p l e R s m args below meth c H1 locs1 cells slots Q (F0 m (pc + 3) ls rest)) : W p l e R s m args below meth c H locs cells slots Q (F0 m pc ls (.int x :: .ref a :: rest)) := by
  unfold sg_pz at h
  obtain ⟨hz, h⟩ := sg_tk h
  refine sg_putv hC hW hin ty0 hty hnm hc k hk hlink hsame hfin hd ?_ ?_ h hdg kk
  · rcases hz with rfl | rfl <;> decide
  · rcases hz with rfl | rfl <;> decide
theorem sg_iald (hC : sg_C p c cc nL s m meth args Ts own ret D tp L Z) (hW : sg_W D L A H0 σ H locs) {a : Nat} {i x : Int32} (h : sg_ld σ a (tp 0) i = some x) (hdg : decode cc pc = .ok (.iaload, 1))
    (kk : W p l e R s m args below meth c H locs cells slots Q (F0 m (pc + 1) ls (.int x :: rest))) : W p l e R s m args below meth c H locs cells slots Q (F0 m pc ls (.int i :: .ref a :: rest)) := by
  obtain ⟨⟨hx, hb, -, hown, hts⟩, -, -, hK, -⟩ := hC
  obtain ⟨n, f, he, hi, rfl⟩ := sg_ld_s h
  obtain ⟨q, hq⟩ := sg_at hW.1 he
  exact va_iald hx hb hK hW.1.2.1 q 0 hq rfl hi hdg kk
theorem sg_bald (hC : sg_C p c cc nL s m meth args Ts own ret D tp L Z) (hW : sg_W D L A H0 σ H locs) {a : Nat} {i x : Int32} (h : sg_ld σ a (tp 2) i = some x) (hdg : decode cc pc = .ok (.baload, 1))
    (kk : W p l e R s m args below meth c H locs cells slots Q (F0 m (pc + 1) ls (.int x :: rest))) : W p l e R s m args below meth c H locs cells slots Q (F0 m pc ls (.int i :: .ref a :: rest)) := by
  obtain ⟨⟨hx, hb, -, hown, hts⟩, -, -, hK, -⟩ := hC
  obtain ⟨n, f, he, hi, rfl⟩ := sg_ld_s h
  obtain ⟨q, hq⟩ := sg_at hW.1 he
  exact va_bald hx hb hK hW.1.2.1 q 2 hq rfl hi hdg kk
theorem sg_zald (hC : sg_C p c cc nL s m meth args Ts own ret D tp L Z) (hW : sg_W D L A H0 σ H locs) {a : Nat} {i x : Int32} (h : sg_ld σ a (tp 3) i = some x) (hdg : decode cc pc = .ok (.baload, 1))
    (kk : W p l e R s m args below meth c H locs cells slots Q (F0 m (pc + 1) ls (.int x :: rest))) : W p l e R s m args below meth c H locs cells slots Q (F0 m pc ls (.int i :: .ref a :: rest)) := by
  obtain ⟨⟨hx, hb, -, hown, hts⟩, -, -, hK, -⟩ := hC
  obtain ⟨n, f, he, hi, rfl⟩ := sg_ld_s h
  obtain ⟨q, hq⟩ := sg_at hW.1 he
  exact va_zald hx hb hK hW.1.2.1 q 3 hq rfl hi hdg kk
theorem sg_lald (hC : sg_C p c cc nL s m meth args Ts own ret D tp L Z) (hW : sg_W D L A H0 σ H locs) {a : Nat} {i : Int32} {x : Int64} (h : sg_ldl σ a (tp 1) i = some x) (hdg : decode cc pc = .ok (.laload, 1))
    (kk : W p l e R s m args below meth c H locs cells slots Q (F0 m (pc + 1) ls (.long x :: rest))) : W p l e R s m args below meth c H locs cells slots Q (F0 m pc ls (.int i :: .ref a :: rest)) := by
  obtain ⟨⟨hx, hb, -, hown, hts⟩, -, -, hK, -⟩ := hC
  obtain ⟨n, f, he, hi, rfl⟩ := sg_ldl_s h
  obtain ⟨q, hq⟩ := sg_at hW.1 he
  exact va_lald hx hb hK hW.1.2.1 q 1 hq rfl hi hdg kk
theorem sg_wald (hC : sg_C p c cc nL s m meth args Ts own ret D tp L Z) (hW : sg_W D L A H0 σ H locs) {a : Nat} {i : Int32} {x : Nat} (h : sg_lda σ a (tp 5) i = some x) (hdg : decode cc pc = .ok (.aaload, 1))
    (kk : W p l e R s m args below meth c H locs cells slots Q (F0 m (pc + 1) ls (.ref x :: rest))) : W p l e R s m args below meth c H locs cells slots Q (F0 m pc ls (.int i :: .ref a :: rest)) := by
  obtain ⟨⟨hx, hb, -, hown, hts⟩, -, -, hK, -⟩ := hC
  obtain ⟨n, f, he, hi, hv⟩ := sg_lda_s h
  obtain ⟨q, hq⟩ := sg_at hW.1 he
  refine va_aldq hx hb hK hW.1.2.1 q 5 hq rfl hi hdg ?_
  rw [hv]
  exact kk
theorem sg_alen (hC : sg_C p c cc nL s m meth args Ts own ret D tp L Z) (hW : sg_W D L A H0 σ H locs) (t0 : Nat) {ty : FieldType} (ht : (sg_tys tp)[t0]? = some (tp t0, ty)) {a : Nat} {x : Int32} (h : sg_ln σ a (tp t0) = some x) (hdg : decode cc pc = .ok (.arraylength, 1))
    (kk : W p l e R s m args below meth c H locs cells slots Q (F0 m (pc + 1) ls (.int x :: rest))) : W p l e R s m args below meth c H locs cells slots Q (F0 m pc ls (.ref a :: rest)) := by
  obtain ⟨⟨hx, hb, -, hown, hts⟩, -, -, hK, -⟩ := hC
  obtain ⟨n, he, hv⟩ := sg_ln_s h
  obtain ⟨q, hq⟩ := sg_at hW.1 he
  exact va_alen hx hb hK hW.1.2.1 q t0 hq ht hv hdg kk
theorem sg_iast (hC : sg_C p c cc nL s m meth args Ts own ret D tp L Z) (hW : sg_W D L A H0 σ H locs) {a : Nat} {i x : Int32} (h : sg_st σ a (tp 0) i x = some σ1) (hdg : decode cc pc = .ok (.iastore, 1))
    (kk : ∀ (H1 : Heap) (locs1 : List Loc), sg_W D L A H0 σ1 H1 locs1 → W p l e R s m args below meth c H1 locs1 cells slots Q (F0 m (pc + 1) ls rest)) : W p l e R s m args below meth c H locs cells slots Q (F0 m pc ls (.int x :: .int i :: .ref a :: rest)) := by
  obtain ⟨⟨hx, hb, -, hown, hts⟩, -, -, hK, -⟩ := hC
  obtain ⟨n, f, he, hi, rfl⟩ := sg_st_s h
  obtain ⟨q, hq⟩ := sg_at hW.1 he
  exact va_iast hx hb hK hW.1.2.1 (sg_WD hW) hW.2.2 q 0 hq rfl hi hdg (fun H1 locs1 hP _ hS => kk H1 locs1 ⟨sg_setI hW.1 he hq hP, hW.2.1, hS⟩)
theorem sg_bast (hC : sg_C p c cc nL s m meth args Ts own ret D tp L Z) (hW : sg_W D L A H0 σ H locs) {a : Nat} {i x : Int32} (h : sg_st σ a (tp 2) i (vp_nar .byte x) = some σ1) (hdg : decode cc pc = .ok (.bastore, 1))
    (kk : ∀ (H1 : Heap) (locs1 : List Loc), sg_W D L A H0 σ1 H1 locs1 → W p l e R s m args below meth c H1 locs1 cells slots Q (F0 m (pc + 1) ls rest)) : W p l e R s m args below meth c H locs cells slots Q (F0 m pc ls (.int x :: .int i :: .ref a :: rest)) := by
  obtain ⟨⟨hx, hb, -, hown, hts⟩, -, -, hK, -⟩ := hC
  obtain ⟨n, f, he, hi, rfl⟩ := sg_st_s h
  obtain ⟨q, hq⟩ := sg_at hW.1 he
  exact va_bast hx hb hK hW.1.2.1 (sg_WD hW) hW.2.2 q 2 hq rfl hi hdg (fun H1 locs1 hP _ hS => kk H1 locs1 ⟨sg_setI hW.1 he hq hP, hW.2.1, hS⟩)
theorem sg_zast (hC : sg_C p c cc nL s m meth args Ts own ret D tp L Z) (hW : sg_W D L A H0 σ H locs) {a : Nat} {i x : Int32} (h : sg_st σ a (tp 3) i (vp_nar .boolean x) = some σ1) (hdg : decode cc pc = .ok (.bastore, 1))
    (kk : ∀ (H1 : Heap) (locs1 : List Loc), sg_W D L A H0 σ1 H1 locs1 → W p l e R s m args below meth c H1 locs1 cells slots Q (F0 m (pc + 1) ls rest)) : W p l e R s m args below meth c H locs cells slots Q (F0 m pc ls (.int x :: .int i :: .ref a :: rest)) := by
  obtain ⟨⟨hx, hb, -, hown, hts⟩, -, -, hK, -⟩ := hC
  obtain ⟨n, f, he, hi, rfl⟩ := sg_st_s h
  obtain ⟨q, hq⟩ := sg_at hW.1 he
  exact va_zast hx hb hK hW.1.2.1 (sg_WD hW) hW.2.2 q 3 hq rfl hi hdg (fun H1 locs1 hP _ hS => kk H1 locs1 ⟨sg_setI hW.1 he hq hP, hW.2.1, hS⟩)
theorem sg_last (hC : sg_C p c cc nL s m meth args Ts own ret D tp L Z) (hW : sg_W D L A H0 σ H locs) {a : Nat} {i : Int32} {x : Int64} (h : sg_stl σ a (tp 1) i x = some σ1) (hdg : decode cc pc = .ok (.lastore, 1))
    (kk : ∀ (H1 : Heap) (locs1 : List Loc), sg_W D L A H0 σ1 H1 locs1 → W p l e R s m args below meth c H1 locs1 cells slots Q (F0 m (pc + 1) ls rest)) : W p l e R s m args below meth c H locs cells slots Q (F0 m pc ls (.long x :: .int i :: .ref a :: rest)) := by
  obtain ⟨⟨hx, hb, -, hown, hts⟩, -, -, hK, -⟩ := hC
  obtain ⟨n, f, he, hi, rfl⟩ := sg_stl_s h
  obtain ⟨q, hq⟩ := sg_at hW.1 he
  exact va_last hx hb hK hW.1.2.1 (sg_WD hW) hW.2.2 q 1 hq rfl hi hdg (fun H1 locs1 hP _ hS => kk H1 locs1 ⟨sg_setI hW.1 he hq hP, hW.2.1, hS⟩)
theorem sg_acpy (hC : sg_C p c cc nL s m meth args Ts own ret D tp L Z) (hW : sg_W D L A H0 σ H locs) (hml : nL = ls.size) {index : Nat} (hlink : Cond.methodLink own index arraycopyName ∈ Ts) (hnat : Cond.native arraycopyName ∈ Ts) (hstat : Cond.static arraycopyName ∈ Ts) (hini : Cond.initialized "java/lang/System" ∈ Ts) {a b : Nat} {sp dp n : Int32} (h : sg_cp σ a (tp 0) sp b dp n = some σ1)
    (hframes : 1 ≤ R.frames) (hlocals : (rest.map fun v => v.category).sum + (nativeFrameWords "java/lang/System" "arraycopy" 5 + 11) ≤ R.locals) (hdg : decode cc pc = .ok (.invokestatic index, 3))
    (kk : ∀ (H1 : Heap) (locs1 : List Loc), sg_W D L A H0 σ1 H1 locs1 → W p l e R s m args below meth c H1 locs1 cells slots Q (F0 m (pc + 3) ls rest)) : W p l e R s m args below meth c H locs cells slots Q (F0 m pc ls (.int n :: .int dp :: .ref b :: .int sp :: .ref a :: rest)) := by
  obtain ⟨⟨hx, hb, hm2, hown, hts⟩, -, -, hK, -⟩ := hC
  obtain ⟨n0, f, n1, g, e1, e2, h1, h2, h3, h4, h5, rfl⟩ := sg_cp_s h
  obtain ⟨q, hq⟩ := sg_at hW.1 e1
  obtain ⟨q', hq'⟩ := sg_at hW.1 e2
  exact va_copyi hx hb (hm2.trans hml) hown (hts _ hlink) (hts _ hnat) (hts _ hstat) (hts _ hini) hK hW.1.2.1 (sg_WD hW) hW.2.2 q q' 0 0 hq hq' (ty := .int) rfl rfl rfl h1 h2 h3 h4 h5 (fun _ _ => rfl) hframes hlocals hdg (fun H1 locs1 hP _ hS => kk H1 locs1 ⟨sg_setI hW.1 e2 hq' hP, hW.2.1, hS⟩)
/-! the ends of a walk -/
theorem sg_iret (hC : sg_C p c cc nL s m meth args Ts own (some .int) D tp L Z) (hW : sg_W D L (fun q => q ∈ L) s.heap σ H locs) {r : Int32} (hdg : decode cc pc = .ok (.ireturn, 1)) : W p l e R s m args below meth c H locs 0 0 (MQ below (sg_Qi D L r σ) args s 0 0 (fun q => q ∈ L)) (F0 m pc ls [.int r]) := by
  obtain ⟨⟨hx, hb, -, hown, hts⟩, hr, hlocks, hK, -⟩ := hC
  exact W.iret (v := r) hx hb hr (fun t ht _ => ⟨⟨r, (), rfl, rfl, by rw [ht]; exact hW.1⟩, hW.2.2.F ht⟩) hW.2.2.2.2 hdg hlocks
theorem sg_zret (hC : sg_C p c cc nL s m meth args Ts own (some .boolean) D tp L Z) (hW : sg_W D L (fun q => q ∈ L) s.heap σ H locs) {r : Int32} (h01 : r = 0 ∨ r = 1) (hdg : decode cc pc = .ok (.ireturn, 1)) : W p l e R s m args below meth c H locs 0 0 (MQ below (sg_Qi D L r σ) args s 0 0 (fun q => q ∈ L)) (F0 m pc ls [.int r]) := by
  obtain ⟨⟨hx, hb, -, hown, hts⟩, hr, hlocks, hK, -⟩ := hC
  exact W.zret (v := r) hx hb hr (by rcases h01 with rfl | rfl <;> decide) (fun t ht _ => ⟨⟨r, (), rfl, rfl, by rw [ht]; exact hW.1⟩, hW.2.2.F ht⟩) hW.2.2.2.2 hdg hlocks
theorem sg_cret (hC : sg_C p c cc nL s m meth args Ts own (some .char) D tp L Z) (hW : sg_W D L (fun q => q ∈ L) s.heap σ H locs) {r : Int32} (h01 : narrow .char (.int r) = .int r) (hdg : decode cc pc = .ok (.ireturn, 1)) : W p l e R s m args below meth c H locs 0 0 (MQ below (sg_Qi D L r σ) args s 0 0 (fun q => q ∈ L)) (F0 m pc ls [.int r]) := by
  obtain ⟨⟨hx, hb, -, hown, hts⟩, hr, hlocks, hK, -⟩ := hC
  exact W.zret (v := r) hx hb hr h01 (fun t ht _ => ⟨⟨r, (), rfl, rfl, by rw [ht]; exact hW.1⟩, hW.2.2.F ht⟩) hW.2.2.2.2 hdg hlocks
theorem sg_lret (hC : sg_C p c cc nL s m meth args Ts own (some .long) D tp L Z) (hW : sg_W D L (fun q => q ∈ L) s.heap σ H locs) {r : Int64} (hdg : decode cc pc = .ok (.lreturn, 1)) : W p l e R s m args below meth c H locs 0 0 (MQ below (sg_Ql D L r σ) args s 0 0 (fun q => q ∈ L)) (F0 m pc ls [.long r]) := by
  obtain ⟨⟨hx, hb, -, hown, hts⟩, hr, hlocks, hK, -⟩ := hC
  exact W.lret (v := r) hx hb hr (fun t ht _ => ⟨⟨r, (), rfl, rfl, by rw [ht]; exact hW.1⟩, hW.2.2.F ht⟩) hW.2.2.2.2 hdg hlocks
theorem sg_vret (hC : sg_C p c cc nL s m meth args Ts own none D tp L Z) (hW : sg_W D L (fun q => q ∈ L) s.heap σ H locs) (hdg : decode cc pc = .ok (.return_, 1)) : W p l e R s m args below meth c H locs 0 0 (MQ below (sg_Qv D L σ) args s 0 0 (fun q => q ∈ L)) (F0 m pc ls []) := by
  obtain ⟨⟨hx, hb, -, hown, hts⟩, hr, hlocks, hK, -⟩ := hC
  exact W.vret hx hb hr (fun t ht _ => ⟨⟨(), rfl, trivial, by rw [ht]; exact hW.1⟩, hW.2.2.F ht⟩) hW.2.2.2.2 hdg hlocks
theorem sg_aret {n : String} (hC : sg_C p c cc nL s m meth args Ts own (some (.object n)) D tp L Z) (hW : sg_W D L (fun q => q ∈ L) s.heap σ H locs) {r : Nat} (hdg : decode cc pc = .ok (.areturn, 1)) : W p l e R s m args below meth c H locs 0 0 (MQ below (sg_Qa D L r σ) args s 0 0 (fun q => q ∈ L)) (F0 m pc ls [.ref r]) := by
  obtain ⟨⟨hx, hb, -, hown, hts⟩, hr, hlocks, hK, -⟩ := hC
  exact W.aret (v := .ref r) hx hb hr (Or.inl ⟨n, rfl⟩) (Or.inr ⟨r, rfl⟩) (fun t ht _ => ⟨⟨(), r, rfl, trivial, rfl, by rw [ht]; exact hW.1⟩, hW.2.2.F ht⟩) hW.2.2.2.2 hdg hlocks
end SG1
section SG2
variable {p : Program} {l : Launch} {e : Env} {R : Room} {s : State} {m : MethodId} {args : Array Value} {below : List Frame} {meth : Method} {c : Code} {H : Heap} {locs : List Loc} {cells slots : Nat} {Q : State → Prop}
variable {cc : ByteArray} {pc : Nat} {ls : Array Slot} {rest st : List Value} {D : va_G} {L : List Nat} {A : Nat → Prop} {H0 : Heap} {σ σ1 : sg_H} {tp : Nat → ClassId} {Z : sg_Z} {own : String} {Ts ws ws' : List Cond} {nL maxL n index : Nat} {ret cret : Option FieldType} {y : MethodName} {bytes : ByteArray} {rm : Room} {b : Nat} {As : List Value}
theorem sg_blind (hZ : sg_Zok Z) (av : List Value) : FrameBlind (sg_P D tp L Z σ av) := fun a U g mk q => by
  obtain ⟨q0, q1, q2, q3, q4⟩ := q
  exact ⟨q0, q1, va_K.moved (u := U) (U := U.calling g mk a) (Vm.Alike.refl U.vm) q2, q3.same (U := U.calling g mk a) rfl, hZ.1 _ U (U.calling g mk a) U.heap (Vm.Alike.refl U.vm) q4⟩
theorem sg_ZU (hC : sg_C p c cc nL s m meth args Ts own ret D tp L Z) (hW : sg_W D L A s.heap σ H locs) {U : State} (hU : U.heap = H) (hWm : s.WarmedH U.vm) : Z (fun q => q ∈ L) U U.heap := by
  obtain ⟨-, -, -, -, -, hE, hZ⟩ := hC
  rw [hU]
  refine hZ.2.1 _ U s.heap H (hZ.1 _ s U s.heap hWm.alike hE) (fun a h1 h2 => hW.2.2.2.1 a h1 (fun h3 => ?_))
  rcases hW.2.1.2 a h3 with h | h
  · exact h2 h
  · exact absurd h1 (Nat.not_lt.mpr h)
theorem sg_preV (hC : sg_C p c cc nL s m meth args Ts own ret D tp L Z) (hW : sg_W D L A s.heap σ H locs) {C : String} {T : u_T} {N ci : Nat} (hc : vwCl[ci]? = some (C, T, N)) (his : sg_is σ b ci = true) : PreV s H C b (sg_P D tp L Z σ (.ref b :: As)) As := by
  obtain ⟨fs, he⟩ := sg_is_s his
  obtain ⟨q, hq⟩ := sg_at hW.1 he
  exact ⟨sg_blind hC.2.2.2.2.2.2 _, va_recv hC.2.2.2.1 hW.1.2.1 hc hq, fun U hU hWm => ⟨rfl, by rw [hU]; exact hW.1, va_K.moved hWm.alike hC.2.2.2.1, hC.2.2.2.2.1.warm hWm, sg_ZU hC hW hU hWm⟩⟩
theorem sg_preS (hC : sg_C p c cc nL s m meth args Ts own ret D tp L Z) (hW : sg_W D L A s.heap σ H locs) : PreS s H (sg_P D tp L Z σ As) As :=
  ⟨sg_blind hC.2.2.2.2.2.2 _, fun U hU hWm => ⟨rfl, by rw [hU]; exact hW.1, va_K.moved hWm.alike hC.2.2.2.1, hC.2.2.2.2.1.warm hWm, sg_ZU hC hW hU hWm⟩⟩
theorem sg_runV {Qc : Array Value → State → Outcome → State → Prop} (hC : sg_C p c cc nL s m meth args Ts own ret D tp L Z) (hW : sg_W D L A s.heap σ H locs) {C : String} {T : u_T} {N ci : Nat} (hM : Met l y ws rm (sg_P D tp L Z σ (.ref b :: As)) Qc 0 0 (fun q => q ∈ L)) (hG : GoodIn Ts (wsV own index C y ws)) (hw : ws = Cond.code y bytes maxL cret :: ws')
    (hd : y.cls = C ∧ y.cls ≠ "java/lang/invoke/MethodHandle" ∧ y.cls ≠ "java/lang/invoke/VarHandle" ∧ (parseMethodDescriptor y.desc).map (fun d => d.parameters.length) = some n) (hR : rm.cells = 0 ∧ rm.slots = 0 ∧ rm.frames + 1 ≤ R.frames ∧ 8 + (maxL + 11) + rm.locals ≤ R.locals) (hc : vwCl[ci]? = some (C, T, N)) (his : sg_is σ b ci = true)
    (hn : As.length = n) (hl : ls.size = nL) (hst : st = As.reverse ++ .ref b :: rest) (hroom : (rest.map fun v => v.category).sum ≤ 8) (hcs : cells ≤ R.cells ∧ slots ≤ R.slots) (hdg : decode cc pc = .ok (.invokevirtual index, 3)) :
    va_Run p l e R s m args below meth c H locs cells slots 0 0 (F0 m pc ls st) rest (Qc (Value.ref b :: As).toArray) (fun q => q ∈ L) :=
  va_runV hC.1 hM (cwV n hC.1.2.2.2.2 hG hw hR.1 hR.2.1 hd hR.2.2) (sg_preV hC hW hc his) rfl hn hl hst (lv_room hroom) hdg hcs
theorem sg_runS {Qc : Array Value → State → Outcome → State → Prop} (hC : sg_C p c cc nL s m meth args Ts own ret D tp L Z) (hW : sg_W D L A s.heap σ H locs) (hM : Met l y ws rm (sg_P D tp L Z σ As) Qc 0 0 (fun q => q ∈ L)) (hG : GoodIn Ts (va_wsS own index y ws)) (hw : ws = Cond.code y bytes maxL cret :: ws')
    (hd : y.cls ≠ "java/lang/invoke/MethodHandle" ∧ y.cls ≠ "java/lang/invoke/VarHandle" ∧ (parseMethodDescriptor y.desc).map (fun d => d.parameters.length) = some n) (hR : rm.cells = 0 ∧ rm.slots = 0 ∧ rm.frames + 1 ≤ R.frames ∧ 8 + (maxL + 11) + rm.locals ≤ R.locals)
    (hn : As.length = n) (hl : ls.size = nL) (hst : st = As.reverse ++ rest) (hroom : (rest.map fun v => v.category).sum ≤ 8) (hcs : cells ≤ R.cells ∧ slots ≤ R.slots) (hdg : decode cc pc = .ok (.invokestatic index, 3)) :
    va_Run p l e R s m args below meth c H locs cells slots 0 0 (F0 m pc ls st) rest (Qc As.toArray) (fun q => q ∈ L) :=
  va_runS hC.1 hM (va_cwS n hC.1.2.2.2.2 hG hw hR.1 hR.2.1 hd hR.2.2) (sg_preS hC hW) rfl hn hl hst (lv_room hroom) hdg hcs
theorem sg_runSN {Qc : Array Value → State → Outcome → State → Prop} (hC : sg_C p c cc nL s m meth args Ts own ret D tp L Z) (hW : sg_W D L A s.heap σ H locs) (hM : Met l y ws rm (sg_P D tp L Z σ As) Qc 0 0 (fun q => q ∈ L)) (hG : GoodIn Ts ws) (hw : ws = Cond.code y bytes maxL cret :: ws') (hnl : (own, index, y) ∈ sg_nl) (hini : Cond.initialized y.cls ∈ Ts) (hst1 : Cond.static y ∈ Ts)
    (hd : y.cls ≠ "java/lang/invoke/MethodHandle" ∧ y.cls ≠ "java/lang/invoke/VarHandle" ∧ (parseMethodDescriptor y.desc).map (fun d => d.parameters.length) = some n) (hR : rm.cells = 0 ∧ rm.slots = 0 ∧ rm.frames + 1 ≤ R.frames ∧ 8 + (maxL + 11) + rm.locals ≤ R.locals)
    (hn : As.length = n) (hl : ls.size = nL) (hst : st = As.reverse ++ rest) (hroom : (rest.map fun v => v.category).sum ≤ 8) (hcs : cells ≤ R.cells ∧ slots ≤ R.slots) (hdg : decode cc pc = .ok (.invokestatic index, 3)) :
    va_Run p l e R s m args below meth c H locs cells slots 0 0 (F0 m pc ls st) rest (Qc As.toArray) (fun q => q ∈ L) :=
  va_runSN hC.1 hM ⟨va_cnB n hC.1.2.2.2.2 hG hw hR.1 hR.2.1 (hC.2.2.2.2.1 _ hnl) (hC.1.2.2.2.2 _ hini) hd hR.2.2, hC.1.2.2.2.2 _ hst1, trivial⟩ (sg_preS hC hW) rfl hn hl hst (lv_room hroom) hdg hcs
theorem sg_goi {r : Int32} {a : Array Value} (hr : va_Run p l e R s m args below meth c H locs cells slots 0 0 (F0 m pc ls st) rest (sg_Qi D L r σ1 a) (fun q => q ∈ L)) (hW : sg_W D L A H0 σ H locs)
    (kk : ∀ (H1 : Heap) (locs1 : List Loc), sg_W D L A H0 σ1 H1 locs1 → W p l e R s m args below meth c H1 locs1 cells slots Q (F0 m (pc + 3) ls (.int r :: rest))) : W p l e R s m args below meth c H locs cells slots Q (F0 m pc ls st) :=
  va_calli hr hW.2.2 (fun q _ h => hW.2.1.1 q h) (fun q h => hW.2.1.1 q h) (fun r1 _ t H1 locs1 ht _ hp hB _ _ hS => by
    subst hp
    rw [ht] at hB
    exact kk H1 locs1 ⟨hB, hW.2.1, hS⟩)
theorem sg_gol {r : Int64} {a : Array Value} (hr : va_Run p l e R s m args below meth c H locs cells slots 0 0 (F0 m pc ls st) rest (sg_Ql D L r σ1 a) (fun q => q ∈ L)) (hW : sg_W D L A H0 σ H locs)
    (kk : ∀ (H1 : Heap) (locs1 : List Loc), sg_W D L A H0 σ1 H1 locs1 → W p l e R s m args below meth c H1 locs1 cells slots Q (F0 m (pc + 3) ls (.long r :: rest))) : W p l e R s m args below meth c H locs cells slots Q (F0 m pc ls st) :=
  va_calll hr hW.2.2 (fun q _ h => hW.2.1.1 q h) (fun q h => hW.2.1.1 q h) (fun r1 _ t H1 locs1 ht _ hp hB _ _ hS => by
    subst hp
    rw [ht] at hB
    exact kk H1 locs1 ⟨hB, hW.2.1, hS⟩)
theorem sg_gov {a : Array Value} (hr : va_Run p l e R s m args below meth c H locs cells slots 0 0 (F0 m pc ls st) rest (sg_Qv D L σ1 a) (fun q => q ∈ L)) (hW : sg_W D L A H0 σ H locs)
    (kk : ∀ (H1 : Heap) (locs1 : List Loc), sg_W D L A H0 σ1 H1 locs1 → W p l e R s m args below meth c H1 locs1 cells slots Q (F0 m (pc + 3) ls rest)) : W p l e R s m args below meth c H locs cells slots Q (F0 m pc ls st) :=
  va_callv hr hW.2.2 (fun q _ h => hW.2.1.1 q h) (fun q h => hW.2.1.1 q h) (fun _ t H1 locs1 ht _ hp hB _ _ hS => by
    rw [ht] at hB
    exact kk H1 locs1 ⟨hB, hW.2.1, hS⟩)
theorem sg_goa {r : Nat} {a : Array Value} (hr : va_Run p l e R s m args below meth c H locs cells slots 0 0 (F0 m pc ls st) rest (sg_Qa D L r σ1 a) (fun q => q ∈ L)) (hW : sg_W D L A H0 σ H locs)
    (kk : ∀ (H1 : Heap) (locs1 : List Loc), sg_W D L A H0 σ1 H1 locs1 → W p l e R s m args below meth c H1 locs1 cells slots Q (F0 m (pc + 3) ls (.ref r :: rest))) : W p l e R s m args below meth c H locs cells slots Q (F0 m pc ls st) :=
  va_callr hr hW.2.2 (fun q _ h => hW.2.1.1 q h) (fun q h => hW.2.1.1 q h) (fun _ r1 t H1 locs1 ht _ _ hB _ _ hS => by
    obtain ⟨rfl, hB⟩ := hB
    rw [ht] at hB
    exact kk H1 locs1 ⟨hB, hW.2.1, hS⟩)
end SG2
