/-! the law's entry, for the simulation -/
theorem kL_law : am_ck nL_law nL_law.1.2.2.1 = true := by decide +kernel
theorem am_Rel0 {K : AKx} {H : Heap} {xs : Nat → Int32} {L : Nat} (k1 : K.1 = H.size) (kL : K.2.2.2.2.2.1 = L) (kx : K.2.2.2.2.2.2 = xs) : am_Rel K (K.1 + 3) (h0_ xs, r0_, (0 : Int64), (0 : UInt64), 0, 0, 0, L, some 0) H := by
  refine ⟨fun k q h => ?_, ⟨fun i j p q h => ?_, fun k q h => ?_⟩, ⟨k1.symm, rfl, by decide, fun k _ hk => ?_⟩, kL.symm, fun k => ?_, fun a j _ => rfl⟩
  · have h : ([] : va_W)[k]? = some q := h
    rw [List.getElem?_nil] at h
    cases h
  · have h : ([] : va_W)[i]? = some p := h
    rw [List.getElem?_nil] at h
    cases h
  · have h : ([] : va_W)[k]? = some q := h
    rw [List.getElem?_nil] at h
    cases h
  · refine am_ct_eq (am_ty_eq rfl rfl _) (funext fun j => if_neg (fun e => ?_)) rfl (fun _ => rfl) (fun _ => rfl)
    have g := am_lay_at hk
    rw [e] at g
    have g : 3004 = k := g
    unfold am_all at hk
    omega
  · rw [kx]
    exact if_pos rfl
