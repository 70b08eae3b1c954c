/-! the two calls by hand, for the simulation: am_L9 -/
section YE
variable {K : AKx} {p : Program} {l : Launch} {e : Env} {R : Room} {s : State} {m : MethodId} {args : Array Value} {below : List Frame} {meth : Method} {c : Code} {bytes : ByteArray} {mr : MR} {o : AO} {h1 : AH} {ih : AK} {pc len tgt d : Nat} {r : List CI} {ls : AL} {st : List AV} {h : AH}
theorem am_k9m {v0 v1 : AV} {f : Int32 → AR} {x : AO × AH} (h : (match [v0, v1] with | [Sum.inr (Sum.inr (Sum.inr 2)), Sum.inl (Value.int z)] => f z | _ => none) = some x) : ∃ n, v0 = zr 2 ∧ v1 = vi n ∧ f n = some x := by
  split at h
  · next heq =>
    cases heq
    exact ⟨_, rfl, rfl, h⟩
  · cases h
theorem am_v3_of {v : AV} (h : am_v3 v = true) : v = zr 3 := by
  unfold am_v3 at h
  split at h
  · next n => exact congrArg zr (Nat.eq_of_beq_eq_true h)
  · cases h
theorem am_k9 {k : Nat} {q : Nat × Nat × Nat × MR} (hC : am_Cx K p s m args c bytes mr) (hfr : R.frames = d ∧ 41 * d ≤ R.locals) (hq : q.1 = 9 ∧ q.2.1 = 1) (hw : Cond.methodLink (am_cn mr.1) k yJ5_ensureCapacityInternal_d00df ∈ sg_T) (hdec : decode bytes pc = .ok (.invokevirtual k, 3)) (nx : am_Nx K p l e R s m args below meth c mr o h1 (pc + 3) d ih r) (hg : am_gk ih) (hrun : am_call ih mr pc r ls st h d q = some (o, h1)) : am_G K p l e R s m args below meth c mr o h1 pc ls st h := by
  intro va H locs cells slots lsr hR hS hc hs hL
  obtain ⟨hx, hb, hml, hown, hts, hKn⟩ := hC
  unfold am_call at hrun
  dsimp only at hrun
  rw [hq.1, hq.2] at hrun
  have hn : (bif am_stk 9 || Nat.beq 9 10 || Nat.beq 9 11 then 1 else 1 + 1) = 2 := rfl
  rw [hn] at hrun
  rcases st with _ | ⟨v1, _ | ⟨v0, t⟩⟩
  · cases hrun
  · cases hrun
  · have hrun : (bif !(am_clean ls t && Nat.ble (am_sum t) 8) then none else (match (generalizing := false) [v0, v1] with | [Sum.inr (Sum.inr (Sum.inr 2)), Sum.inl (Value.int x)] => (if 0 ≤ x ∧ x ≤ 30000 ∧ h.cp ≤ 30000 ∧ h.nx = none ∧ 6 ≤ d ∧ h.1 (za 2) 1 = 0 ∧ am_by (h.1 (za 3)) h.cp = true ∧ am_v3 (h.2.1 (za 2) 0) = true then ih mr r ls t (am_grow h x.toNatClampNeg) d else none) | _ => none)) = some (o, h1) := hrun
    cases hgc : am_clean ls t && Nat.ble (am_sum t) 8 with
    | false => rw [hgc] at hrun; cases hrun
    | true =>
      rw [hgc] at hrun
      obtain ⟨g1, g2⟩ := Bool.and_eq_true_iff.mp hgc
      have hsum := am_sum_cat (K := K) (va := va) g2
      have hrun : (match (generalizing := false) [v0, v1] with | [Sum.inr (Sum.inr (Sum.inr 2)), Sum.inl (Value.int x)] => (if 0 ≤ x ∧ x ≤ 30000 ∧ h.cp ≤ 30000 ∧ h.nx = none ∧ 6 ≤ d ∧ h.1 (za 2) 1 = 0 ∧ am_by (h.1 (za 3)) h.cp = true ∧ am_v3 (h.2.1 (za 2) 0) = true then ih mr r ls t (am_grow h x.toNatClampNeg) d else none) | _ => none) = some (o, h1) := hrun
      obtain ⟨x, rfl, rfl, hrun2⟩ := am_k9m (f := fun x => if 0 ≤ x ∧ x ≤ 30000 ∧ h.cp ≤ 30000 ∧ h.nx = none ∧ 6 ≤ d ∧ h.1 (za 2) 1 = 0 ∧ am_by (h.1 (za 3)) h.cp = true ∧ am_v3 (h.2.1 (za 2) 0) = true then ih mr r ls t (am_grow h x.toNatClampNeg) d else none) hrun
      by_cases hcond : 0 ≤ x ∧ x ≤ 30000 ∧ h.cp ≤ 30000 ∧ h.nx = none ∧ 6 ≤ d ∧ h.1 (za 2) 1 = 0 ∧ am_by (h.1 (za 3)) h.cp = true ∧ am_v3 (h.2.1 (za 2) 0) = true
      · rw [if_pos hcond] at hrun2
        obtain ⟨c1, c2, c3, c4, c5, c6, c7, c8⟩ := hcond
        obtain ⟨n, hn31, rfl⟩ := nI_of (Int32.not_lt.mpr c1)
        rw [nI_clamp hn31] at hrun2
        have hn3 : n ≤ 30000 := (nI_leI (b := 30000) hn31 (by decide)).mp c2
        obtain ⟨d0, rfl⟩ : ∃ d0, d = d0 + 1 := ⟨d - 1, by omega⟩
        obtain ⟨m1, m2⟩ := hg (am_grow h n).nc (am_grow h n).ns _ _ _ _ _ _ (Nat.le_refl _) (Nat.le_refl _) _ _ hrun2
        obtain ⟨n1, n2⟩ := am_ge_grow (q := n) (h := h) (Nat.le_refl h.nc) (Nat.le_refl h.ns)
        have hM : am_Ct K l en_ens d0 [zr 2, vi (nI n)] h (Sum.inl none) (am_grow h n) := c_ens (by omega) hn3 c3 c4 c6 c7 (am_v3_of c8)
        have hex2 : am_ex h (za 2) = true := by
          unfold am_ex
          rw [c4]
        have hrun9 : vx_Run p l e R s m args below meth c H locs cells slots ((am_grow h n).nc - h.nc) ((am_grow h n).ns - h.ns) (F0 m pc lsr ((vi (nI n) :: zr 2 :: t).map (am_rv K va))) (t.map (am_rv K va)) (am_Post K (Sum.inl none) (am_grow h n) (Value.ref (am_ad K va (za 2)) :: [Value.int (nI n)]).toArray) (am_PostX K (Sum.inl none) (am_grow h n)) (am_fr K) := vx_runV (own := am_cn mr.1) (C := am_cn 1) (b := am_ad K va (za 2)) (bytes := cJ5_ensureCapacityInternal_d00df) (maxL := 3) (ret := none) (n := 1) (As := [.int (nI n)]) (rest := t.map (am_rv K va)) ⟨hx, hb, hml, hown, hts⟩ hM ⟨⟨rfl, rfl, by show d0 + 1 ≤ R.frames; omega, by show 8 + (3 + 11) + 41 * d0 ≤ R.locals; omega, py_ hts kt_6_226, List.mem_cons_self, hts _ kt_6_226, hts _ kt_1_2, ⟨by decide, by decide⟩, pl_ (by decide +kernel), hts _ hw⟩, hts _ kt_6_225, (Kn_sel hKn).1⟩ ⟨am_Pc.blind, am_rcv hR hS hKn hex2 rfl (by decide), fun U hU hW => ⟨va, rfl, by rw [hU]; exact hR, hKn.moved hW (fun q h1 h2 => by rw [hU]; exact hS.2.1 q h1 h2)⟩⟩ rfl rfl hL.1 rfl (lv_room hsum) hdec ⟨by omega, by omega⟩
        refine am_after hrun9 hS g1 hL (fun v va1 H1 locs1 ho hR1 hS1 hL1 => ?_) (fun E va1 H1 locs1 ce q9 hE ho _ _ _ _ _ _ => by cases ho)
        cases ho
        exact nx _ _ _ hrun2 va1 H1 locs1 _ _ lsr hR1 hS1 (by omega) (by omega) hL1
      · rw [if_neg hcond] at hrun2
        cases hrun2
end YE
def tab_M : List (Nat × List (Nat × Nat × Nat × Nat × MR)) := [(0, am_M_0), (1, am_M_1), (4, am_M_4), (5, am_M_5), (6, am_M_6), (7, am_M_7), (8, am_M_8), (9, am_M_9), (10, am_M_10), (11, am_M_11), (12, am_M_12), (13, am_M_13), (16, am_M_16), (21, am_M_21)]
theorem tab_M9 : ∀ z ∈ tab_M, ∀ e ∈ z.2, (e.2.1 = 9 → z.1 = 16 ∧ e.1 = 100 ∧ e.2.2.1 = 1) ∧ (e.2.1 = 11 → ((z.1 = 16 ∧ e.1 = 144) ∨ (z.1 = 21 ∧ e.1 = 9)) ∧ e.2.2.1 = 2) := by decide +kernel
theorem am_M_in {own k : Nat} {q : Nat × Nat × Nat × MR} (h : am_M own k = some q) : ∃ z ∈ tab_M, z.1 = own ∧ (k, q) ∈ z.2 := by
  unfold am_M at h
  split at h
  · next l hl => exact ⟨(own, l), am_lk_mem hl, rfl, am_lk_mem h⟩
  · cases h
theorem am_L9ok {K : AKx} {l : Launch} : am_L9 K l := by
  intro p e R s m args below meth c bytes mr o h1 ih pc d k w r ls st h q hC hlk hfr hst hq hivk hM hg hdec nx hrun
  obtain ⟨z, hz, hz1, hz2⟩ := am_M_in hM
  obtain ⟨t9, t11⟩ := tab_M9 z hz _ hz2
  rcases hq with hq | hq
  · obtain ⟨a1, a2, a3⟩ := t9 hq
    have a2 : k = 100 := a2
    have hw2 : am_iv w k = .invokevirtual k := by
      rw [hq] at hivk
      match w, hivk with
      | 0, _ => rfl
      | 1, z => cases z
      | w + 2, z => cases z
    rw [hw2] at hdec
    have hm : mr.1 = 16 := hz1.symm.trans a1
    refine am_k9 hC hfr ⟨hq, a3⟩ ?_ hdec nx hg hrun
    rw [hm, a2]
    exact kt_6_223
  · obtain ⟨a1, a3⟩ := t11 hq
    have hw2 : am_iv w k = .invokestatic k := by
      rw [hq] at hivk
      match w, hivk with
      | 0, z => cases z
      | 1, _ => rfl
      | w + 2, z => cases z
    rw [hw2] at hdec
    refine am_k11 hC hfr ⟨hq, a3⟩ ?_ hdec nx hg hrun
    rcases a1 with ⟨a1, a2⟩ | ⟨a1, a2⟩
    · have hm : mr.1 = 16 := hz1.symm.trans a1
      have a2 : k = 144 := a2
      rw [hm, a2]
      exact kt_8_7
    · have hm : mr.1 = 21 := hz1.symm.trans a1
      have a2 : k = 9 := a2
      rw [hm, a2]
      exact kt_3_107
