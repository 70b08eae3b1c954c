/-! the law's entry, for the simulation -/
theorem kL_law : am_ck nL_law nL_law.1.2.2.1 = true := by decide +kernel
theorem am_Rel0 {K : AKx} {H : Heap} {xs : Nat → Int32} {L : Nat} (k1 : K.1 = H.size) (kL : K.2.2.2.2.2.1 = L) (kx : K.2.2.2.2.2.2.1 = xs) : am_Rel K (fun _ => 0) (h0_ xs, r0_, (0 : Int64), ad0, 16, 0, 0, L, some 0) H := by
  refine ⟨fun k q h => ?_, ⟨fun i j p q h => ?_, fun k q h => ?_⟩, ⟨k1.symm, by decide, fun k _ hk => ?_⟩, kL.symm, fun k => ?_, fun a j => True.intro, fun i _ => ⟨fun k j => ⟨(show (if da k i = za 3004 then xs j else 0) = 0 from if_neg (fun q => by cases q)), rfl⟩, fun j => rfl⟩, fun i hi => absurd hi (Nat.not_lt_zero i), fun _ => rfl⟩
  · have h : ([] : va_W)[k]? = some q := h
    rw [List.getElem?_nil] at h
    cases h
  · have h : ([] : va_W)[i]? = some p := h
    rw [List.getElem?_nil] at h
    cases h
  · have h : ([] : va_W)[k]? = some q := h
    rw [List.getElem?_nil] at h
    cases h
  · refine am_ct_eq (am_ty_eq rfl rfl _) (funext fun j => if_neg (fun e => ?_)) rfl (fun _ => rfl)
    have g := am_lay_at hk
    rw [e] at g
    have g : 3004 = k := g
    unfold am_all at hk
    omega
  · rw [kx]
    show (if za 3004 = za 3004 then xs k else 0) = xs k
    exact if_pos rfl
theorem am_agr0 {K : AKx} {xs : Nat → Int32} {L : Nat} (k0 : K.2.2.2.2.2.2.2.1 = 0) : am_agr K (fun _ => 0) (h0_ xs, r0_, (0 : Int64), ad0, 16, 0, 0, L, some 0) := by
  refine ⟨?_, fun i hi => ?_⟩
  · rw [k0]; exact Nat.zero_le _
  · rw [k0] at hi; exact absurd hi (Nat.not_lt_zero i)
theorem whole_start {p : Program} {e : Env} {s : State} {m : MethodId} {below : List Frame} {meth : Method} {c : Code} (l : Launch) (hflags : l.flags = flags0) {b L : Nat} {xs : Nat → Int32} (hL : L ≤ 260) (C0 : lw_At p s m meth c b L xs) (hnm : meth.name = x.name) (htab : c.exceptionTable.toList = []) : W p l e room_1 s m #[Value.ref b] below meth c s.heap [] 0 0 (lw_Z below #[Value.ref b] s) (entryFrame m ([Value.ref b] : List Value).toArray 17) := by
  obtain ⟨K, hKn, k1, kb, kL, kx, k0⟩ := am_entryK C0
  obtain ⟨f, h1, hq, hn, hs⟩ := law_run (xs := xs) hL
  have hl : l.stackTraces = false := by
    unfold Launch.stackTraces
    rw [hflags]
    decide
  exact am_law am_TBok hl kL_law C0 hnm htab hKn k1 kb (am_Rel0 k1 kL kx) (am_agr0 k0) rfl rfl hn hs hq
