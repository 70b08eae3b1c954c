section AFT
variable {K : AKx} {p : Program} {l : Launch} {e : Env} {R : Room} {s : State} {m : MethodId} {args : Array Value} {below : List Frame} {meth : Method} {c : Code} {H : Heap} {locs : List Loc} {cells slots : Nat} {Q : State → Prop}
/-- with what the law has made by now -/
abbrev kH (K : AKx) (va : Nat → Nat) (h : AH) : AKx := kB K (h.nd, va, h.dk)
theorem am_agr.ext {va va1 : Nat → Nat} {h h2 : AH} (q : am_agr (kH K va h) va1 h2) : am_xt' h h2 ∧ ∀ i, i < h.nd → va1 i = va i := ⟨⟨q.1, fun i hi => (q.2 i hi).2⟩, fun i hi => (q.2 i hi).1⟩
theorem am_agr.self {va : Nat → Nat} {h : AH} : am_agr (kH K va h) va h := ⟨Nat.le_refl _, fun _ _ => ⟨rfl, rfl⟩⟩
/-- a frame's names behind a call -/
theorem am_ok.call {va va1 : Nat → Nat} {h h2 : AH} {ls : AL} {t : List AV} (o : am_ok K va h ls t) (q : am_agr (kH K va h) va1 h2) : am_ok K va1 h2 ls t := by
  obtain ⟨e1, e2⟩ := q.ext
  refine ⟨⟨Nat.le_trans o.1.1 e1.1, fun i hi => ?_⟩, fun i v hv => (o.2.1 i v hv).ext e1, fun v hv => (o.2.2 v hv).ext e1⟩
  have hlt : i < h.nd := Nat.lt_of_lt_of_le hi o.1.1
  exact ⟨(e2 i hlt).trans (o.1.2 i hi).1, (e1.2 i hlt).trans (o.1.2 i hi).2⟩
theorem am_okL {va : Nat → Nat} {h : AH} {ls : AL} {t u : List AV} (o : am_ok K va h ls t) (hu : ∀ v ∈ u, am_okv h v) : am_ok K va h ls (u ++ t) := ⟨o.1, o.2.1, fun v hv => by
  rcases List.mem_append.mp hv with hv | hv
  · exact hu v hv
  · exact o.2.2 v hv⟩
theorem am_okN {va : Nat → Nat} {h : AH} {ls : AL} {t : List AV} (o : am_ok K va h ls t) : am_ok K va h ls [] := ⟨o.1, o.2.1, fun v hv => by cases hv⟩
/-- a call's two ends -/
theorem am_after {va : Nat → Nat} {h : AH} {pc nL mc ms : Nat} {ls : AL} {t : List AV} {lsr : Array Slot} {st0 : List Value} {a : Array Value} {o2 : AO} {h2 : AH} (hr : vx_Run p l e R s m args below meth c H locs cells slots mc ms (F0 m pc lsr st0) (t.map (am_rv K va)) (am_Post (kH K va h) o2 h2 a) (am_PostX (kH K va h) o2 h2) (am_fr K)) (hS : va_S (am_fr K) s.heap H locs) (hO : am_ok K va h ls t) (hL : am_LR K va nL lsr ls)
    (kk : ∀ (v : Option AV) (va1 : Nat → Nat) (H1 : Heap) (locs1 : List Loc), o2 = Sum.inl v → am_Rel K va1 h2 H1 → va_S (am_fr K) s.heap H1 locs1 → am_LR K va1 nL lsr ls → am_ok K va1 h2 ls (v.toList ++ t) → W p l e R s m args below meth c H1 locs1 (cells + mc) (slots + ms) Q (F0 m (pc + 3) lsr ((v.toList ++ t).map (am_rv K va1))))
    (kx : ∀ (E : Nat) (va1 : Nat → Nat) (H1 : Heap) (locs1 : List Loc) (ce : Cell) (q9 : Addr), E < 3 → o2 = Sum.inr E → am_Rel K va1 h2 H1 → va_S (am_fr K) s.heap H1 locs1 → am_LR K va1 nL lsr ls → am_ok K va1 h2 ls [] → H1[q9]? = some ce → ce.vm = .none → s.vm.findClass (am_xs E) = some ce.cls → vx_W p l e R s m args below meth c H1 locs1 (cells + mc) (slots + ms) Q (F0 m pc lsr (t.map (am_rv K va))) q9) : W p l e R s m args below meth c H locs cells slots Q (F0 m pc lsr st0) := by
  intro T hT X
  rcases hr T hT X with ⟨v, st₀, u, T', L, h0, X', hL9, e1, e2, ⟨v9, va1, ho, hv, hR, hF, hag, hvo⟩, st⟩ | ⟨q, st₀, u, T', L, E, ce, h0, X', hL9, e1, e2, ⟨⟨j, hj, ho, rfl⟩, ⟨va1, hR, hag⟩, hF⟩, hce, hcv, hcl9, st⟩
  · obtain ⟨k1, k2, k3⟩ := vx_keep h0 e1 hS (fun _ _ h => h) (fun _ h => h) hL9 hF
    have hv : v = v9.map (am_rv K va1) := by injection hv
    obtain ⟨x1, x2⟩ := hag.ext
    obtain ⟨t2, a1, b1⟩ := kk v9 va1 T'.heap (locs ++ L) ho (by rw [e1]; exact hR) k3 (hL.eq x2 hO.2.1) (am_okL (hO.call hag) (fun w hw => hvo w (by cases v9 with | none => cases hw | some z => rw [List.mem_singleton.mp hw]))) T' rfl X'
    refine ⟨t2, st t2 ?_, b1⟩
    have hst : ((v9.toList ++ t).map (am_rv K va1)) = v.toList ++ t.map (am_rv K va) := by
      rw [hv, List.map_append, am_rv_mapeq x2 hO.2.2]
      cases v9 <;> rfl
    rw [← hst]
    exact a1
  · obtain ⟨k1, k2, k3⟩ := vx_keep h0 e1 hS (fun _ _ h => h) (fun _ h => h) hL9 hF
    obtain ⟨x1, x2⟩ := hag.ext
    obtain ⟨t2, a1, b1⟩ := kx j va1 T'.heap (locs ++ L) ce q hj ho (by rw [e1]; exact hR) k3 (hL.eq x2 hO.2.1) (am_okN (hO.call hag)) (by rw [e1]; exact hce) hcv hcl9 T' rfl X'
    exact ⟨t2, st.trans a1, b1⟩
/-- .. of a call through an interface -/
theorem am_after5 {va : Nat → Nat} {h : AH} {pc nL mc ms : Nat} {ls : AL} {t : List AV} {lsr : Array Slot} {st0 : List Value} {a : Array Value} {o2 : AO} {h2 : AH} (hr : va_Run5 p l e R s m args below meth c H locs cells slots mc ms (F0 m pc lsr st0) (t.map (am_rv K va)) (am_Post (kH K va h) o2 h2 a) (am_fr K)) (hS : va_S (am_fr K) s.heap H locs) (hO : am_ok K va h ls t) (hL : am_LR K va nL lsr ls)
    (kk : ∀ (v : Option AV) (va1 : Nat → Nat) (H1 : Heap) (locs1 : List Loc), o2 = Sum.inl v → am_Rel K va1 h2 H1 → va_S (am_fr K) s.heap H1 locs1 → am_LR K va1 nL lsr ls → am_ok K va1 h2 ls (v.toList ++ t) → W p l e R s m args below meth c H1 locs1 (cells + mc) (slots + ms) Q (F0 m (pc + 5) lsr ((v.toList ++ t).map (am_rv K va1)))) : W p l e R s m args below meth c H locs cells slots Q (F0 m pc lsr st0) := by
  intro T hT X
  obtain ⟨v, st₀, u, T', L, h0, X', hL9, e1, e2, ⟨v9, va1, ho, hv, hR, hF, hag, hvo⟩, st⟩ := hr T hT X
  obtain ⟨k1, k2, k3⟩ := vx_keep h0 e1 hS (fun _ _ h => h) (fun _ h => h) hL9 hF
  have hv : v = v9.map (am_rv K va1) := by injection hv
  obtain ⟨x1, x2⟩ := hag.ext
  obtain ⟨t2, a1, b1⟩ := kk v9 va1 T'.heap (locs ++ L) ho (by rw [e1]; exact hR) k3 (hL.eq x2 hO.2.1) (am_okL (hO.call hag) (fun w hw => hvo w (by cases v9 with | none => cases hw | some z => rw [List.mem_singleton.mp hw]))) T' rfl X'
  refine ⟨t2, st t2 ?_, b1⟩
  have hst : ((v9.toList ++ t).map (am_rv K va1)) = v.toList ++ t.map (am_rv K va) := by
    rw [hv, List.map_append, am_rv_mapeq x2 hO.2.2]
    cases v9 <;> rfl
  rw [← hst]
  exact a1
/-- a run that doesn't throw, as one that may -/
theorem am_runx {mc ms : Nat} {g : JFrame} {rest : List Value} {Qa : State → Outcome → State → Prop} {XC : String → State → State → Prop} {free : Addr → Prop} (hr : va_Run p l e R s m args below meth c H locs cells slots mc ms g rest Qa free) : vx_Run p l e R s m args below meth c H locs cells slots mc ms g rest Qa XC free := by
  intro T hT X
  exact Or.inl (hr T hT X)
end AFT
