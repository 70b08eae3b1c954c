section KN
variable {K : AKx} {s U : State} {H H1 : Heap}
theorem am_CA.moved {n len : Nat} {ty : FieldType} {f : Nat → Value} (hvm : s.vm.Alike U.vm) (hk : ∀ q : Nat, q < H.size → ¬ am_fr K q → H1[q]? = H[q]?) (hn : ¬ am_fr K (K.2.2.2.2.1 n)) (h : am_CA K n ty len f s H) : am_CA K n ty len f U H1 := by
  obtain ⟨cell, h1, h2, h3, h4, h5⟩ := h
  exact ⟨cell, by rw [hk _ (Array.getElem?_eq_some_iff.mp h1).1 hn]; exact h1, State.isArrayOf_alike hvm h2, h3, h4, h5⟩
theorem am_Nw_moved {w : Cond} (hW : s.WarmedH U.vm) (hw : am_nw w = true) (h : va_Nw w s) : va_Nw w U := by
  unfold am_nw at hw
  split at hw
  · exact h.warmC hW
  · exact h.warmM hW
  · exact h.warmD hW
  · exact h.warmF hW
  · cases hw
theorem am_sel_moved {w : Cond} (hg : goodWord w = true) (hW : s.WarmedH U.vm) (h : va_Nw w s) : va_Nw w U := pay_in (big := [w]) (ws := [w]) (args := #[]) (fun v hv => by rw [List.mem_singleton.mp hv]; exact h) (fun v hv => ⟨hv, by rw [List.mem_singleton.mp hv]; exact good_of_word hg⟩) w List.mem_cons_self #[] U hW
theorem am_Kn.moved (hW : s.WarmedH U.vm) (hk : ∀ q : Nat, q < H.size → ¬ am_fr K q → H1[q]? = H[q]?) (h : am_Kn K s H) : am_Kn K U H1 := by
  have hvm := hW.alike
  obtain ⟨k1, k2, k3, k4, k5, k6, k7, k8, k9, k10, k11, k12, k13, k14, k15, k16, k17, k18, k19, k20, k21, k22, k23, k24, k25, k26, k27, k28, k29⟩ := h
  refine ⟨k1.moved hvm, fun w h1 h2 => am_Nw_moved hW h2 (k2 w h1 h2), fun x j hj => ((k3 x j hj).moved hvm).kept hk, fun n hn j hj => ((k4 n hn j hj).moved hvm).kept hk, fun x => ((k5 x).moved hvm).kept hk, fun n hn => ((k6 n hn).moved hvm).kept hk, fun n hn => (k7 n hn).moved hvm hk (k13 _ (by omega) (by unfold am_nstr at hn; omega)), k8.moved hvm hk (k13 _ (by omega) (by omega)), k9.moved hvm hk (k13 _ (by omega) (by omega)), k10.moved hvm hk (k13 _ (by omega) (by omega)), k11.moved hvm hk (k13 _ (by omega) (by omega)), k12.moved hvm hk (k13 _ (by omega) (by omega)), k13, k14, ?_, ?_, (vx_Zq.moved hvm k17).kept hk, (vx_Zq.moved hvm k18).kept hk, ?_, va_AO.moved hvm k20, va_AO.moved hvm k21, True.intro, (va_Zq.moved hvm k23).kept hk, fun y hy => am_sel_moved rfl hW (k24 y hy), k25.moved hvm hk (k13 _ (by omega) (by omega)), (k26.moved hvm).kept hk, k27.moved ⟨by decide, by decide⟩ hvm, k28.moved ⟨by decide, by decide⟩ hvm, va_AO.moved hvm k29⟩
  · intro own k v hv
    obtain ⟨a1, C, n, ds, a2, a3⟩ := k15 own k v hv
    exact ⟨a1, C, n, ds, fun va => ((a2 va).moved hvm).kept hk, a3⟩
  · intro own k v hv
    rcases k16 own k v hv with a1 | ⟨n, text, a1, a2, a3⟩
    · exact Or.inl a1
    · exact Or.inr ⟨n, text, a1, a2, a3.warm hW⟩
  · intro k hk9
    obtain ⟨text, sa, a1⟩ := k19 k hk9
    exact ⟨text, sa, a1.warm hW⟩
/-- where the law's cells were at the method's start -/
abbrev kv (K : AKx) : Nat → Nat := K.2.2.2.2.2.2.2.2.1
/-- a method's start -/
def am_Pc (K : AKx) (as : List AV) (h : AH) : Array Value → State → Prop := fun a st => a = (as.map (am_rv K (kv K))).toArray ∧ am_Rel K (kv K) h st.heap ∧ am_Kn K st st.heap ∧ am_agr K (kv K) h ∧ ∀ v ∈ as, am_okv h v
theorem am_Pc.blind {as : List AV} {h : AH} : FrameBlind (am_Pc K as h) := fun _ U _ _ ⟨h1, h2, h3, h4⟩ => ⟨h1, h2, h3.moved (State.WarmedH.refl U) (fun _ _ _ => rfl), h4⟩
/-- a method of the class files: its code, name, bytes, return type, handlers -/
abbrev ME : Type := MR × MethodName × ByteArray × Option FieldType × Option (List (Nat × Nat × Nat × Nat))
def am_wd (en : ME) : Cond := match en.2.2.2.2 with
  | none => .code en.2.1 en.2.2.1 en.1.2.1 en.2.2.2.1
  | some hh => .codeWith en.2.1 en.2.2.1 en.1.2.1 en.2.2.2.1 hh
def am_rm (d : Nat) (h h1 : AH) : Room := { frames := d, locals := 41 * d, cells := h1.nc - h.nc, slots := h1.ns - h.ns }
/-- what a method owes -/
def am_Ct (K : AKx) (l : Launch) (en : ME) (d : Nat) (as : List AV) (h : AH) (o : AO) (h1 : AH) : Prop := vx_Met l en.2.1 (am_wd en :: sg_T) (am_rm d h h1) (am_Pc K as h) (am_Post K o h1) (am_PostX K o h1) (h1.nc - h.nc) (h1.ns - h.ns) (am_fr K)
/-- one that returns doesn't throw -/
theorem am_Ct.met {l : Launch} {en : ME} {d : Nat} {as : List AV} {h h1 : AH} {v : Option AV} (hM : am_Ct K l en d as h (Sum.inl v) h1) : Met l en.2.1 (am_wd en :: sg_T) (am_rm d h h1) (am_Pc K as h) (am_Post K (Sum.inl v) h1) (h1.nc - h.nc) (h1.ns - h.ns) (am_fr K) := by
  refine MetFree.mono hM (fun _ _ q => q) (fun _ _ _ _ _ _ => trivial) (fun a st o t _ q => ?_)
  rcases q with q | ⟨q9, -, E, ce, L, ⟨⟨j, -, hx, -⟩, -⟩, -⟩
  · exact q
  · cases hx
end KN
