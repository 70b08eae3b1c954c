section KX
variable {K : AKx} {p : Program} {l : Launch} {e : Env} {R : Room} {s : State} {m : MethodId} {args : Array Value} {below : List Frame} {meth : Method} {c : Code} {bytes : ByteArray} {mr : MR} {o : AO} {h1 : AH} {ih : AK} {pc len tgt d : Nat} {r : List CI} {ls : AL} {st : List AV} {h : AH}
theorem am_cBC : Cond.castable "[B" "java/lang/Cloneable" ∈ lw_tbl := List.mem_append_right _ (show Cond.castable "[B" "java/lang/Cloneable" ∈ tables_1_1 ++ (tables_1_2 ++ (tables_1_3 ++ (tables_1_4 ++ (tables_1_5 ++ (tables_1_6 ++ (tables_1_7 ++ (tables_1_8 ++ (tables_1_9)))))))) from List.mem_append_right _ (List.mem_append_right _ (List.mem_append_right _ (List.mem_append_right _ (List.mem_append_right _ (List.mem_append_left _ (List.mem_of_getElem? (i := 220) rfl)))))))
def yBclone : MethodName := ⟨"[B", "clone", "()Ljava/lang/Object;"⟩
def yOclone : MethodName := ⟨"java/lang/Object", "clone", "()Ljava/lang/Object;"⟩
theorem am_one {v0 : AV} {f : AA → AR} {x : AO × AH} (h : (match [v0] with | [Sum.inr a] => f a | _ => none) = some x) : ∃ a, v0 = Sum.inr a ∧ f a = some x := by
  split at h
  · next heq =>
    cases heq
    exact ⟨_, rfl, h⟩
  · cases h
/-- a row of bytes is copied whole -/
theorem am_k7 {k : Nat} {q : Nat × Nat × Nat × MR} (hC : am_Cx K p s m args c bytes mr) (hfr : d ≤ R.frames ∧ 41 * d ≤ R.locals) (hq : q.1 = 7 ∧ q.2.1 = 0) (hw : Cond.methodLink (am_cn mr.1) k yBclone ∈ sg_T ∧ Cond.sameMethod "[B" "java/lang/Object" "clone" "()Ljava/lang/Object;" ∈ sg_T ∧ Cond.native yOclone ∈ sg_T ∧ Cond.instanceMethod yOclone ∈ sg_T ∧ Cond.selects "[B" yBclone yOclone ∈ sg_T) (hdec : decode bytes pc = .ok (.invokevirtual k, 3)) (nx : am_Nx K p l e R s m args below meth c mr o h1 (pc + 3) d ih r) (hg : am_gk ih) (hrun : am_call ih mr pc r ls st h d q = some (o, h1)) : am_G K p l e R s m args below meth c mr o h1 pc ls st h := by
  intro va H locs cells slots lsr hR hS hc hs hL hO
  obtain ⟨hx, hb, hml, hown, hts, hKn⟩ := hC
  unfold am_call at hrun
  dsimp only at hrun
  rw [hq.1, hq.2] at hrun
  have hn : (bif am_stk 7 || Nat.beq 7 10 || Nat.beq 7 11 then 0 else 0 + 1) = 1 := rfl
  rw [hn] at hrun
  rcases st with _ | ⟨v0, t⟩
  · cases hrun
  · have hrun : (bif !(Nat.ble (am_sum t) 8) then none else (match (generalizing := false) [v0] with | [Sum.inr a] => (if (am_ty h a).1 = 101 ∧ am_dyn a = true ∧ am_ex h a = true ∧ h.nx = none ∧ 3 ≤ d ∧ (am_ty h a).2 ≤ 65536 ∧ am_by (am_rI h a) (am_ty h a).2 = true then ih mr r ls (dr 101 h.nd :: t) ((fun b j => if b = da 101 h.nd ∧ j < (am_ty h a).2 then am_rI h a j else h.1 b j), (am_mkd h 101 (am_ty h a).2).2) d else none) | _ => none)) = some (o, h1) := hrun
    cases g2 : Nat.ble (am_sum t) 8 with
    | false => rw [g2] at hrun; cases hrun
    | true =>
      rw [g2] at hrun
      have hsum := am_sum_cat (K := K) (va := va) g2
      obtain ⟨a, rfl, hrun2⟩ := am_one (f := fun a => if (am_ty h a).1 = 101 ∧ am_dyn a = true ∧ am_ex h a = true ∧ h.nx = none ∧ 3 ≤ d ∧ (am_ty h a).2 ≤ 65536 ∧ am_by (am_rI h a) (am_ty h a).2 = true then ih mr r ls (dr 101 h.nd :: t) ((fun b j => if b = da 101 h.nd ∧ j < (am_ty h a).2 then am_rI h a j else h.1 b j), (am_mkd h 101 (am_ty h a).2).2) d else none) hrun
      by_cases hcond : (am_ty h a).1 = 101 ∧ am_dyn a = true ∧ am_ex h a = true ∧ h.nx = none ∧ 3 ≤ d ∧ (am_ty h a).2 ≤ 65536 ∧ am_by (am_rI h a) (am_ty h a).2 = true
      · rw [if_pos hcond] at hrun2
        obtain ⟨c1, c2, c3, c4, c5, c6, c7⟩ := hcond
        obtain ⟨m1, m2⟩ := hg _ _ _ _ _ _ _ _ (Nat.le_refl _) (Nat.le_refl _) _ _ hrun2
        have m1 : h.nc + 1 ≤ h1.nc := m1
        have m2 : h.ns + (am_ty h a).2 ≤ h1.ns := m2
        have hva := am_val_of c2 c3 c1 (by decide) hO.top
        have hata := am_here (K := K) (va := va) hva
        rw [am_ct_int c1 (by decide) (by decide)] at hata
        have hfit := am_by_fit c7
        have hK1 : K.1 ≤ H.size := hR.lo c4
        have hra := (hKn.1.2 1 (K.2.2.1 101, .byte) rfl).2
        have hnm : s.vm.findClass "[B" = some (K.2.2.1 101) := hra
        have hS9 : va_S (am_fr K) H H locs := ⟨Nat.le_refl _, fun _ _ _ => rfl, hS.2.2⟩
        refine va_clone (ad := "[B") hx hb (hml.trans hL.1.symm) hown (hts _ hw.1) (hts _ hw.2.1) (hts _ hw.2.2.1) (hts _ hw.2.2.2.1) (hts _ hw.2.2.2.2) (hKn.2.1 _ am_cBC rfl) hKn.1 hR.1 hR.2.1 hS9 (fun q hq => Nat.le_trans hK1 hq) (am_jx h a) 1 hata rfl hnm (fun i v hv => ?_) (by omega) (Nat.le_trans (Nat.add_le_add_right hsum 14) (by omega)) (by omega) (by show slots + (am_ty h a).2 ≤ R.slots; omega) hdec (fun q H1 _ hP1 hD1 hS1 => ?_)
        · have hi : i < (am_ty h a).2 := by
            have := (Array.getElem?_eq_some_iff.mp hv).1
            rwa [show (vp_cell (K.2.2.1 101) ((am_ty h a).2, .inl (fun j => h.i a j))).slots.size = (am_ty h a).2 from arrV_size _ _ _] at this
          have e1 : (vp_cell (K.2.2.1 101) ((am_ty h a).2, .inl (fun j => h.i a j))).slots[i]? = some (.int (h.i a i)) := arrV_read _ _ hi
          rw [e1] at hv
          cases hv
          have := hfit i hi
          rw [(am_rI_d c2 i).1] at this
          exact this
        · have hf : ∀ b : AA, b ≠ da 101 h.nd → (fun (b : AA) j => if b = da 101 h.nd ∧ j < (am_ty h a).2 then am_rI h a j else h.1 b j) b = h.1 b := fun b hb9 => by
            funext j
            exact if_neg (fun z => hb9 z.1)
          have hct : am_ct K (am_va1 va h.nd q) ((fun (b : AA) j => if b = da 101 h.nd ∧ j < (am_ty h a).2 then am_rI h a j else h.1 b j), (am_mkd h 101 (am_ty h a).2).2) (da 101 h.nd) = .inl (K.2.2.1 101, (am_ty h a).2, .inl (fun j => if j < (am_ty h a).2 then am_rI h a j else 0)) := by
            have ht9 : am_ty ((fun (b : AA) j => if b = da 101 h.nd ∧ j < (am_ty h a).2 then am_rI h a j else h.1 b j), (am_mkd h 101 (am_ty h a).2).2) (da 101 h.nd) = (101, (am_ty h a).2) := by
              show (101, bif Nat.blt 101 100 then am_nfs 101 else (if h.nd = h.nd then (am_ty h a).2 else h.dl h.nd)) = _
              rw [if_pos rfl]; rfl
            rw [am_ct_int (t := 101) (by rw [ht9]) (by decide) (by decide), ht9]
            refine congrArg (fun z => Sum.inl (K.2.2.1 101, (am_ty h a).2, Sum.inl z)) ?_
            funext j
            show (if da 101 h.nd = da 101 h.nd ∧ j < (am_ty h a).2 then am_rI h a j else h.1 (da 101 h.nd) j) = _
            by_cases hj : j < (am_ty h a).2
            · rw [if_pos ⟨rfl, hj⟩, if_pos hj]
            · rw [if_neg (fun z => hj z.2), if_neg hj]
              exact ((hR.2.2.2.2.2.2.1 h.nd (Nat.le_refl _)).1 101 j).1
          have hcell : vp_cell (K.2.2.1 101) ((am_ty h a).2, .inl (fun j => h.i a j)) = vp_cell (K.2.2.1 101) ((am_ty h a).2, .inl (fun j => if j < (am_ty h a).2 then am_rI h a j else 0)) := by
            rw [vp_cell_i, vp_cell_i]
            unfold arrV
            congr 1
            apply congrArg Array.ofFn
            funext j
            show Value.int (h.i a j.val) = Value.int (if j.val < (am_ty h a).2 then am_rI h a j.val else 0)
            rw [if_pos j.isLt, (am_rI_d c2 j.val).1]
          have hP2 : va_P K.2.1 vwCl (am_ws K va h ++ [(q, am_ct K (am_va1 va h.nd q) ((fun (b : AA) j => if b = da 101 h.nd ∧ j < (am_ty h a).2 then am_rI h a j else h.1 b j), (am_mkd h 101 (am_ty h a).2).2) (da 101 h.nd))]) H1 := by
            rw [hct]
            intro k9 x9 hx9
            by_cases hlt : k9 < (am_ws K va h).length
            · rw [List.getElem?_append_left hlt] at hx9
              exact hP1 k9 x9 (by rw [List.getElem?_append_left hlt]; exact hx9)
            · rw [List.getElem?_append_right (by omega)] at hx9
              have hk9 : k9 - (am_ws K va h).length < 1 := (List.getElem?_eq_some_iff.mp hx9).1
              have hat := hP1 k9 (q, .inl (K.2.2.1 101, (am_ty h a).2, .inl (fun j => h.i a j))) (by
                rw [List.getElem?_append_right (by omega), show k9 - (am_ws K va h).length = 0 by omega]; rfl)
              rw [show k9 - (am_ws K va h).length = 0 by omega] at hx9
              cases hx9
              have hat : H1[q]? = some (vp_cell (K.2.2.1 101) ((am_ty h a).2, .inl (fun j => h.i a j))) := hat
              rw [hcell] at hat
              exact hat
          have hD2 : va_D (am_fr K) (am_ws K va h ++ [(q, am_ct K (am_va1 va h.nd q) ((fun (b : AA) j => if b = da 101 h.nd ∧ j < (am_ty h a).2 then am_rI h a j else h.1 b j), (am_mkd h 101 (am_ty h a).2).2) (da 101 h.nd))]) := by
            have := hD1.set (p := (am_ws K va h).length) (a := q) (e0 := .inl (K.2.2.1 101, (am_ty h a).2, .inl (fun j => h.i a j))) (e := am_ct K (am_va1 va h.nd q) ((fun (b : AA) j => if b = da 101 h.nd ∧ j < (am_ty h a).2 then am_rI h a j else h.1 b j), (am_mkd h 101 (am_ty h a).2).2) (da 101 h.nd)) (by rw [List.getElem?_append_right (Nat.le_refl _), Nat.sub_self]; rfl)
            rwa [List.set_append_right _ _ (Nat.le_refl _), Nat.sub_self] at this
          have hk := nx _ _ _ hrun2 (am_va1 va h.nd q) H1 locs (cells + 1) (slots + (am_ty h a).2) lsr (hR.mkq c4 rfl hf hP2 hD2) ⟨Nat.le_trans hS.1 hS1.1, fun x q1 q2 => (hS1.2.1 x (Nat.lt_of_lt_of_le q1 hS.1) q2).trans (hS.2.1 x q1 q2), hS1.2.2⟩ (by show cells + 1 + h1.nc ≤ R.cells + (h.nc + 1); omega) (by show slots + (am_ty h a).2 + h1.ns ≤ R.slots + (h.ns + (am_ty h a).2); omega) (hL.eq am_va1_old hO.2.1) (hO.pop.mkd rfl)
          have e9 : am_rv K (am_va1 va h.nd q) (dr 101 h.nd) = .ref q := by
            show Value.ref (am_va1 va h.nd q h.nd) = _
            unfold am_va1
            rw [if_pos rfl]
          rw [List.map_cons, e9, am_rv_mapeq am_va1_old hO.pop.2.2] at hk
          exact hk
      · rw [if_neg hcond] at hrun2
        cases hrun2
end KX
