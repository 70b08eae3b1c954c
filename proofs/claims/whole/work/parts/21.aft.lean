section AFT
variable {K : AKx} {p : Program} {l : Launch} {e : Env} {R : Room} {s : State} {m : MethodId} {args : Array Value} {below : List Frame} {meth : Method} {c : Code} {H : Heap} {locs : List Loc} {cells slots : Nat} {Q : State → Prop}
/-- what doesn't name the text's value stays where it is -/
theorem am_rv_noS {va va1 : Nat} {v : AV} (h : am_noS v = true) : am_rv K va v = am_rv K va1 v := by
  rcases v with v | a
  · rfl
  · rcases a with w | x | n
    · rfl
    · rfl
    · have h2 : (!(Nat.beq n 3)) = true := h
      have h3 : Nat.beq n 3 = false := by
        cases hb : Nat.beq n 3 with
        | false => rfl
        | true => rw [hb] at h2; cases h2
      show Value.ref (bif Nat.beq n 3 then va else bif Nat.ble 1000 n then K.2.2.2.2.1 n else K.1 + n) = Value.ref (bif Nat.beq n 3 then va1 else bif Nat.ble 1000 n then K.2.2.2.2.1 n else K.1 + n)
      rw [h3]; rfl
theorem am_clean_st {ls : AL} {t : List AV} (h : am_clean ls t = true) (va va1 : Nat) : t.map (am_rv K va) = t.map (am_rv K va1) := by
  have h2 := (Bool.and_eq_true_iff.mp h).2
  refine List.map_congr_left fun v hv => am_rv_noS ?_
  exact List.all_eq_true.mp h2 v hv
theorem am_clean_LR {ls : AL} {t : List AV} {va va1 nL : Nat} {lsr : Array Slot} (h : am_clean ls t = true) (hL : am_LR K va nL lsr ls) : am_LR K va1 nL lsr ls := by
  refine ⟨hL.1, hL.2.1, fun i v hv => ?_⟩
  rw [hL.2.2 i v hv]
  have h1 := List.all_eq_true.mp (Bool.and_eq_true_iff.mp h).1 (some v) (List.mem_of_getElem? hv)
  rw [am_rv_noS (va := va) (va1 := va1) h1]
/-- a call's two ends -/
theorem am_after {va pc nL mc ms : Nat} {ls : AL} {t : List AV} {lsr : Array Slot} {st0 : List Value} {a : Array Value} {o2 : AO} {h2 : AH} (hr : vx_Run p l e R s m args below meth c H locs cells slots mc ms (F0 m pc lsr st0) (t.map (am_rv K va)) (am_Post K o2 h2 a) (am_PostX K o2 h2) (am_fr K)) (hS : va_S (am_fr K) s.heap H locs) (hcl : am_clean ls t = true) (hL : am_LR K va nL lsr ls)
    (kk : ∀ (v : Option AV) (va1 : Nat) (H1 : Heap) (locs1 : List Loc), o2 = Sum.inl v → am_Rel K va1 h2 H1 → va_S (am_fr K) s.heap H1 locs1 → am_LR K va1 nL lsr ls → W p l e R s m args below meth c H1 locs1 (cells + mc) (slots + ms) Q (F0 m (pc + 3) lsr ((v.toList ++ t).map (am_rv K va1))))
    (kx : ∀ (E va1 : Nat) (H1 : Heap) (locs1 : List Loc) (ce : Cell) (q9 : Addr), E < 3 → o2 = Sum.inr E → am_Rel K va1 h2 H1 → va_S (am_fr K) s.heap H1 locs1 → am_LR K va1 nL lsr ls → H1[q9]? = some ce → ce.vm = .none → s.vm.findClass (am_xs E) = some ce.cls → vx_W p l e R s m args below meth c H1 locs1 (cells + mc) (slots + ms) Q (F0 m pc lsr (t.map (am_rv K va))) q9) : W p l e R s m args below meth c H locs cells slots Q (F0 m pc lsr st0) := by
  intro T hT X
  rcases hr T hT X with ⟨v, st₀, u, T', L, h0, X', hL9, e1, e2, ⟨v9, va1, ho, hv, hR, hF⟩, st⟩ | ⟨q, st₀, u, T', L, E, ce, h0, X', hL9, e1, e2, ⟨⟨j, hj, ho, rfl⟩, ⟨va1, hR⟩, hF⟩, hce, hcv, hcl9, st⟩
  · obtain ⟨k1, k2, k3⟩ := vx_keep h0 e1 hS (fun _ _ h => h) (fun _ h => h) hL9 hF
    have hv : v = v9.map (am_rv K va1) := by injection hv
    obtain ⟨t2, a1, b1⟩ := kk v9 va1 T'.heap (locs ++ L) ho (by rw [e1]; exact hR) k3 (am_clean_LR hcl hL) T' rfl X'
    refine ⟨t2, st t2 ?_, b1⟩
    have hst : ((v9.toList ++ t).map (am_rv K va1)) = v.toList ++ t.map (am_rv K va) := by
      rw [hv, List.map_append, am_clean_st hcl va1 va]
      cases v9 <;> rfl
    rw [← hst]
    exact a1
  · obtain ⟨k1, k2, k3⟩ := vx_keep h0 e1 hS (fun _ _ h => h) (fun _ h => h) hL9 hF
    obtain ⟨t2, a1, b1⟩ := kx j va1 T'.heap (locs ++ L) ce q hj ho (by rw [e1]; exact hR) k3 (am_clean_LR hcl hL) (by rw [e1]; exact hce) hcv hcl9 T' rfl X'
    exact ⟨t2, st.trans a1, b1⟩
/-- a run that doesn't throw, as one that may -/
theorem am_runx {mc ms : Nat} {g : JFrame} {rest : List Value} {Qa : State → Outcome → State → Prop} {XC : String → State → State → Prop} {free : Addr → Prop} (hr : va_Run p l e R s m args below meth c H locs cells slots mc ms g rest Qa free) : vx_Run p l e R s m args below meth c H locs cells slots mc ms g rest Qa XC free := by
  intro T hT X
  exact Or.inl (hr T hT X)
end AFT
