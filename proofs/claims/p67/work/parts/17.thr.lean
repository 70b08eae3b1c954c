section THR
variable {K : AKx} {p : Program} {l : Launch} {e : Env} {R : Room} {s : State} {m : MethodId} {args : Array Value} {below : List Frame} {meth : Method} {c : Code} {bytes : ByteArray} {mr : MR} {o : AO} {h1 : AH} {ih : AK} {pc len tgt d : Nat} {r : List CI} {ls : AL} {st : List AV} {h : AH}
theorem am_Rel.cnt {va : Nat → Nat} {k n : Nat} {H H1 : Heap} (hR : am_Rel K va h H) (hnx : h.nx = none) (ho : ∀ q : Nat, q < H.size → H1[q]? = H[q]?) : am_Rel K va (am_cnt h k n) H1 := by
  obtain ⟨hP, hD, h3, h4, h5⟩ := hR
  have hct : ∀ b, am_ct K va (am_cnt h k n) b = am_ct K va h b := fun b => am_ct_eq (h := h) (h2 := am_cnt h k n) (am_ty_eq rfl rfl _) rfl rfl (fun _ => rfl)
  have hws : am_ws K va (am_cnt h k n) = am_ws K va h := by
    unfold am_ws
    have e1 : am_n (am_cnt h k n) = am_n h := rfl
    have e2 : (am_cnt h k n).nd = h.nd := rfl
    have e3 : (am_cnt h k n).dk = h.dk := rfl
    rw [e1, e2, e3]
    simp only [hct]
  refine ⟨?_, ?_, ?_, h4, h5⟩
  · rw [hws]
    exact hP.kept fun k x hx => ho x.1 ((hP k x hx).lt)
  · rw [hws]; exact hD
  · show (match h.nx with | some n => _ | none => True)
    rw [hnx]; trivial
theorem am_nw_ot {w : Cond} (h : am_nw w = true) : w.onTables = true := by
  unfold am_nw at h
  split at h
  · rfl
  · rfl
  · rfl
  · rfl
  · cases h
theorem am_TW.all {k ic : Nat} {E : String} (hw : am_TW k ic E) (hts : ∀ w ∈ sg_T, w.before args s = true) (hn : ∀ w ∈ lw_tbl, am_nw w = true → va_Nw w s) : ∀ w ∈ vx_atS RX9 ic E am_nmT, w.before args s = true := by
  intro w h
  obtain ⟨h1, h2⟩ := hw.2.2.2.1 w h
  rcases Bool.or_eq_true_iff.mp h2 with h2 | h2
  · exact hts w (List.mem_filter.mpr ⟨h1, h2⟩)
  · exact va_Nw.use (am_nw_ot h2) (hn w h1 h2)
theorem am_s_throw {k is ic E : Nat} (hE : E < 3) (hC : am_Cx K p s m args c bytes mr) (hlst : l.stackTraces = false) (hlocks : meth.locks = false) (hxt : ∀ x ∈ c.exceptionTable.toList, False) (hfr : d ≤ R.frames ∧ 41 * d ≤ R.locals) (hmr : mr.1 = 11) (hq9 : am_N mr.1 k = some (1, 0, E)) (hw : am_TW k ic (am_xs E)) (his : is ∈ am_tx)
    (d0 : decode bytes pc = .ok (.new k, 3)) (d3 : decode bytes (pc + 3) = .ok (.dup, 1)) (hd : (decode bytes (pc + 4) = .ok (.ldc is, 2) ∧ decode bytes (pc + 6) = .ok (.invokespecial ic, 3) ∧ decode bytes (pc + 9) = .ok (.athrow, 1)) ∨ (decode bytes (pc + 4) = .ok (.ldc_w is, 3) ∧ decode bytes (pc + 7) = .ok (.invokespecial ic, 3) ∧ decode bytes (pc + 10) = .ok (.athrow, 1))) (hrun : am_step ih mr ((pc, .new k, len, tgt) :: r) ls st h d = some (o, h1)) : am_G K p l e R s m args below meth c mr o h1 pc ls st h := by
  intro va H locs cells slots lsr hR hS hc hs hL hO
  obtain ⟨hx, hb, hml, hown, hts, hKn⟩ := hC
  have h9 : (match am_N mr.1 k with | some (m, tg, E) => bif Nat.beq m 0 then am_mk (fun a h1 => ih mr r ls (Sum.inr a :: st) h1 d) h tg none else (match (generalizing := false) st, h.nx with | [], none => bif Nat.ble 6 d && am_xt mr.2.2.2 pc then some (Sum.inr E, am_cnt h 1 6) else none | _, _ => none) | none => none) = some (o, h1) := hrun
  rw [hq9] at h9
  have h9 : (match (generalizing := false) st, h.nx with | [], none => bif Nat.ble 6 d && am_xt mr.2.2.2 pc then some (Sum.inr E, am_cnt h 1 6) else none | _, _ => none) = some (o, h1) := h9
  have hnil : st = [] ∧ h.nx = none := by
    cases st with
    | cons _ _ => cases h9
    | nil =>
      cases hnx : h.nx with
      | some n => rw [hnx] at h9; cases h9
      | none => exact ⟨rfl, rfl⟩
  obtain ⟨rfl, hnx⟩ := hnil
  rw [hnx] at h9
  · have h9 : (bif Nat.ble 6 d && am_xt mr.2.2.2 pc then some (Sum.inr E, am_cnt h 1 6) else none) = some (o, h1) := h9
    cases hb6 : Nat.ble 6 d && am_xt mr.2.2.2 pc with
    | false => rw [hb6] at h9; cases h9
    | true =>
      rw [hb6, cond_true] at h9
      cases h9
      have h6 : 6 ≤ d := Nat.le_of_ble_eq_true (Bool.and_eq_true_iff.mp hb6).1
      have hown : s.vm.findClass RX9 = some m.cls := by rw [hmr] at hown; exact hown
      obtain ⟨text, sa, hstr⟩ := hKn.2.2.2.2.2.2.2.2.2.2.2.2.2.2.2.2.2.2.1 is his
      have hsz : lsr.size = c.maxLocals := hL.1.trans hml.symm
      have hnm : ∀ n ∈ am_nmT, Bundle.fit n = true := by decide
      have hcn : (am_cnt h 1 6).nc = h.nc + 1 := rfl
      have hsn : (am_cnt h 1 6).ns = h.ns + 6 := rfl
      rw [hcn] at hc
      rw [hsn] at hs
      have hX : ∀ t : State, s.vm.Alike t.vm → H.size ≤ t.heap.size → (∀ q : Nat, q < H.size → t.heap[q]? = H[q]?) → am_PostX K (Sum.inr E) (am_cnt h 1 6) (am_xs E) s t := fun t _ z1 o1 => ⟨⟨E, hE, rfl, rfl⟩, ⟨va, hR.cnt hnx o1, hO.1⟩, Nat.le_trans hS.1 z1, fun q q1 q2 => (o1 q (Nat.lt_of_lt_of_le q1 hS.1)).trans (hS.2.1 q q1 q2)⟩
      have hlen : am_nmT.length = 2 := rfl
      have hs0 : (([] : List Value).map fun v => v.category).sum = 0 := rfl
      rcases hd with ⟨d4, d6, d9⟩ | ⟨d4, d6, d9⟩
      · exact vx_throwS (names := am_nmT) hx hb hlst hown hw.1 hnm (hts _ hw.2.1) (hts _ hw.2.2.1) hstr (hw.all hts hKn.2.1) hw.2.2.2.2 hKn.2.2.2.2.2.2.2.2.2.2.2.2.2.2.2.2.1 hKn.2.2.2.2.2.2.2.2.2.2.2.2.2.2.2.2.2.1 hS hsz d0 d3 d4 d6 d9 (fun x hx => (hxt x hx).elim) (by rw [hlen]; omega) (by show 0 + (13 * (2 + 1) + 43) ≤ R.locals; omega) (by omega) (by omega) hlocks hX hS.2.2 (by omega) (by omega)
      · exact vx_throwSW (names := am_nmT) hx hb hlst hown hw.1 hnm (hts _ hw.2.1) (hts _ hw.2.2.1) hstr (hw.all hts hKn.2.1) hw.2.2.2.2 hKn.2.2.2.2.2.2.2.2.2.2.2.2.2.2.2.2.1 hKn.2.2.2.2.2.2.2.2.2.2.2.2.2.2.2.2.2.1 hS hsz d0 d3 d4 d6 d9 (fun x hx => (hxt x hx).elim) (by rw [hlen]; omega) (by show 0 + (13 * (2 + 1) + 43) ≤ R.locals; omega) (by omega) (by omega) hlocks hX hS.2.2 (by omega) (by omega)
end THR
