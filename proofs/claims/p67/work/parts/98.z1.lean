section LAW
variable {K : AKx} {l : Launch}
/-- slots of cells that are new count for nothing -/
theorem am_same0 {s t : State} {L : List Loc} {k n : Nat} (h : s.sameButNew t L k n) (hf : ∀ z ∈ L, s.heap.size ≤ z.base) : s.sameButNew t [] k n := by
  obtain ⟨h1, h2, h3, h4, h5, h6⟩ := h
  refine ⟨h1, h2, h3, h4, h5, fun a c hc => ?_⟩
  obtain ⟨c9, e1, e2, e3, e4⟩ := h6 a c hc
  refine ⟨c9, e1, e2, e3, fun i hi => e4 i fun hm => ?_⟩
  have hlt : a < s.heap.size := (Array.getElem?_eq_some_iff.mp hc).1
  have h9 : s.heap.size ≤ a := hf _ hm
  exact absurd h9 (Nat.not_le.mpr hlt)
/-- the law as an entry -/
def nL_law : ME := (mL_law, x, code, ret, none)
/-- THE LAW, out of the abstract machine's run of it -/
theorem am_law (hT : am_TB) (hl : l.stackTraces = false) (hK : am_ck nL_law nL_law.1.2.2.1 = true) {p : Program} {e : Env} {s : State} {m : MethodId} {below : List Frame} {meth : Method} {c : Code} {b L : Nat} {xs : Nat → Int32} (C0 : lw_At p s m meth c b L xs) (hn : meth.name = x.name) (htab : c.exceptionTable.toList = []) (hKn : am_Kn K s s.heap) (hb0 : K.1 = s.heap.size) (hb : K.2.2.2.2.1 3004 = b) {va : Nat → Nat} {f : Nat} {h0 h1 : AH} (hR : am_Rel K va h0 s.heap) (hag : am_agr K va h0) (hnc : h0.nc = 0) (hns : h0.ns = 0) (hc1 : h1.nc ≤ 600086) (hs1 : h1.ns ≤ 7301442) (hq : am_ev f mL_law mL_law.2.2.1 (am_pad 17 (am_args [zr 3004])) [] h0 15 = some (Sum.inl (some (vi 1)), h1)) : W p l e room_1 s m #[Value.ref b] below meth c s.heap [] 0 0 (lw_Z below #[Value.ref b] s) (entryFrame m ([Value.ref b] : List Value).toArray 17) := by
  obtain ⟨c1, c2, c3, c4, c5, c6, c7, c8, c9, c10⟩ := C0
  have hC : am_Cx K p s m #[Value.ref b] c nL_law.2.2.1 nL_law.1 := ⟨c1, c2, c4, c5, fun w hw => c6 w (List.mem_filter.mp hw).1, hKn⟩
  have hX : am_FX l room_1 meth c nL_law 15 := ⟨c9, c3, hn, by rw [htab]; rfl, ⟨by decide, by decide⟩, hl⟩
  have hz0 : ∀ e r, nL_law.1.2.2.1 = e :: r → e.1 = 0 := fun e r he => by
    have h2 : (match nL_law.1.2.2.1 with | [] => true | e :: _ => Nat.beq e.1 0) = true := rfl
    rw [he] at h2
    exact Nat.eq_of_beq_eq_true h2
  have hG := am_run_body (p := p) (e := e) (below := below) hT (fun g _ => am_mtf hT hl g) hK trivial hC hX f (Nat.le_refl _) 0 mL_law.2.2.1 _ [] h0 hK hz0 hq
  have hS : va_S (am_fr K) s.heap s.heap [] := ⟨Nat.le_refl _, fun _ _ _ => rfl, fun _ h => by cases h⟩
  have hw := hG va s.heap [] 0 0 _ hR hS (by rw [hnc]; show 0 + h1.nc ≤ 600086 + 0; omega) (by rw [hns]; show 0 + h1.ns ≤ 7301442 + 0; omega) (am_entry (as := [zr 3004]) (maxL := 17) (by decide)) (am_ok_entry hag (fun v hv => by cases hv with | head => trivial | tail _ h => cases h))
  have hv : ([zr 3004] : List AV).map (am_rv K va) = [Value.ref b] := by
    show [Value.ref (am_ad K va (za 3004))] = _
    have e1 : am_ad K va (za 3004) = K.2.2.2.2.1 3004 := rfl
    rw [e1, hb]
  rw [hv] at hw
  rw [lg_entry_eq]
  intro T hT9 X
  obtain ⟨t, st, o, g1, g2, g3⟩ := hw T hT9 X
  refine ⟨t, st, o, g1, g2, ?_⟩
  rcases g3 with ⟨⟨v, va1, hv1, ho, -, -⟩, L9, ⟨hr, hWm, hsm⟩, hfree⟩ | ⟨q, ho, E, ce, L9, ⟨⟨j, -, hj, -⟩, -⟩, -⟩
  · have hv2 : v = some (vi 1) := (Sum.inl.inj hv1).symm
    rw [hv2] at ho
    have ho : o = .returned (some (.int 1)) := ho
    refine ⟨ho, hr, hWm, am_same0 hsm fun z hz => ?_⟩
    have := hfree z hz
    show s.heap.size ≤ z.base
    rw [← hb0]
    exact this
  · cases hj
end LAW
