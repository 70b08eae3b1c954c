/-! the law's entry, for the simulation -/
theorem am_ck_D {en : ME} {n a : Nat} {l : List CI} (h1 : am_ckN en n (l.drop a) = true) (h2 : am_ck en (l.drop (a + n)) = true) : am_ck en (l.drop a) = true := am_ck_N n _ h1 (by rw [List.drop_drop]; exact h2)
theorem kl_end : am_ck nL_law2 (nL_law2.1.2.2.1.drop 2000) = true := by decide +kernel
theorem kL_law : am_ck nL_law2 nL_law2.1.2.2.1 = true := am_ck_D (a := 0) (n := 50) kl_0 (am_ck_D (a := 50) (n := 50) kl_1 (am_ck_D (a := 100) (n := 50) kl_2 (am_ck_D (a := 150) (n := 50) kl_3 (am_ck_D (a := 200) (n := 50) kl_4 (am_ck_D (a := 250) (n := 50) kl_5 (am_ck_D (a := 300) (n := 50) kl_6 (am_ck_D (a := 350) (n := 50) kl_7 (am_ck_D (a := 400) (n := 50) kl_8 (am_ck_D (a := 450) (n := 50) kl_9 (am_ck_D (a := 500) (n := 50) kl_10 (am_ck_D (a := 550) (n := 50) kl_11 (am_ck_D (a := 600) (n := 50) kl_12 (am_ck_D (a := 650) (n := 50) kl_13 (am_ck_D (a := 700) (n := 50) kl_14 (am_ck_D (a := 750) (n := 50) kl_15 (am_ck_D (a := 800) (n := 50) kl_16 (am_ck_D (a := 850) (n := 50) kl_17 (am_ck_D (a := 900) (n := 50) kl_18 (am_ck_D (a := 950) (n := 50) kl_19 (am_ck_D (a := 1000) (n := 50) kl_20 (am_ck_D (a := 1050) (n := 50) kl_21 (am_ck_D (a := 1100) (n := 50) kl_22 (am_ck_D (a := 1150) (n := 50) kl_23 (am_ck_D (a := 1200) (n := 50) kl_24 (am_ck_D (a := 1250) (n := 50) kl_25 (am_ck_D (a := 1300) (n := 50) kl_26 (am_ck_D (a := 1350) (n := 50) kl_27 (am_ck_D (a := 1400) (n := 50) kl_28 (am_ck_D (a := 1450) (n := 50) kl_29 (am_ck_D (a := 1500) (n := 50) kl_30 (am_ck_D (a := 1550) (n := 50) kl_31 (am_ck_D (a := 1600) (n := 50) kl_32 (am_ck_D (a := 1650) (n := 50) kl_33 (am_ck_D (a := 1700) (n := 50) kl_34 (am_ck_D (a := 1750) (n := 50) kl_35 (am_ck_D (a := 1800) (n := 50) kl_36 (am_ck_D (a := 1850) (n := 50) kl_37 (am_ck_D (a := 1900) (n := 50) kl_38 (am_ck_D (a := 1950) (n := 50) kl_39 (kl_end))))))))))))))))))))))))))))))))))))))))
theorem am_Rel0 {K : AKx} {H : Heap} {xs : Nat → Int32} {L : Nat} (k1 : K.1 = H.size) (kL : K.2.2.2.2.2.1 = L) (kx : K.2.2.2.2.2.2 = xs) : am_Rel K (K.1 + 3) (h0_ xs, r0_, (0 : Int64), (0 : UInt64), 0, 0, 0, L, some 0) H := by
  refine ⟨fun k q h => ?_, ⟨fun i j p q h => ?_, fun k q h => ?_⟩, ⟨k1.symm, rfl, by decide, fun k _ hk => ?_⟩, kL.symm, fun k => ?_, fun a j _ => rfl⟩
  · have h : ([] : va_W)[k]? = some q := h
    rw [List.getElem?_nil] at h
    cases h
  · have h : ([] : va_W)[i]? = some p := h
    rw [List.getElem?_nil] at h
    cases h
  · have h : ([] : va_W)[k]? = some q := h
    rw [List.getElem?_nil] at h
    cases h
  · refine am_ct_eq (am_ty_eq rfl rfl _) (funext fun j => if_neg (fun e => ?_)) rfl (fun _ => rfl) (fun _ => rfl)
    have g := am_lay_at hk
    rw [e] at g
    have g : 3004 = k := g
    unfold am_all at hk
    omega
  · rw [kx]
    show (if za 3004 = za 3004 then xs k else 0) = xs k
    exact if_pos rfl
