/-! writeRow, outputByte: both sides -/
theorem ch_y : ∀ y, y < 128 → (((nI y) &&& (255 : Int32)).toUInt32 % 65536).toInt32 = nI y ∧ (nI y).toUInt32.toUInt16.toUInt32.toInt32 = nI y := by decide +kernel
theorem sh0_ (v : Int32) : v >>> ((0 : Int32) &&& 31) = v := by
  apply Int32.toBitVec_inj.mp
  show v.toBitVec.sshiftRight (((0 : Int32) &&& 31).toBitVec.smod 32).toNat = v.toBitVec
  rw [show (((0 : Int32) &&& 31).toBitVec.smod 32).toNat = 0 from by decide]
  apply BitVec.eq_of_getLsbD_eq
  intro i hi
  rw [BitVec.getLsbD_sshiftRight, decide_eq_false (show ¬ 32 ≤ i by omega), if_pos (show 0 + i < 32 by omega), Nat.zero_add]
  rfl
section WS
variable {A B : As_} {hi h h1 : HI} {x x1 : AX} {K G : Nat} {a c : Int32} {w : Wd}
def B_row (A : As_) (a : Int32) : As_ := tr_ A (an_ a) (nn A.w 1)
theorem Cf_writeRow (hG : 501 < G) (hO : Ok_ K A) (H : RC A hi x) : Ck_ (ch_ (lt2_ A (tk_ a (nn A.w 0))) A (B_row A a)) (sh_L_writeRow G a hi x) hi x (lt2_ A (tk_ a (nn A.w 0))) (nI (nn A.w 1)) := by
  unfold sh_L_writeRow sh_X9_writeRow lt2_
  rw [rq_ H]
  cases e : A.ld with
  | false =>
    show Ck_ (ch_ 1 A _) (some ((1 : Int32), hi, xc x)) hi x 1 _
    exact Ck_.no (by decide) H
  | true =>
    have hI := hO.ib e
    have hr := hI.1.r
    have hc := hI.1.c
    show Ck_ _ (bW2 (if a < 0 then some (Sum.inr 1, hi, xc x) else if a < hi (wa 0 1) 4 then (sh_J4_setLength_d00df (0 : Int32) hi x).bind fun v2 => sh_X9_writeRow_42 G a G (0 : Int32) v2.1 v2.2 else some (Sum.inr 1, hi, xc x)) _ _) hi x _ _
    rw [vr_0 0 hi, H.vw e, hr.1]
    cases eo : tk_ a (nn A.w 0) with
    | false =>
      have q := of_decide_eq_false eo
      have e1 : (if a < 0 then some (Sum.inr 1, hi, xc x) else if a < nI (nn A.w 0) then (sh_J4_setLength_d00df (0 : Int32) hi x).bind fun v2 => sh_X9_writeRow_42 G a G (0 : Int32) v2.1 v2.2 else some (Sum.inr 1, hi, xc x)) = some (Sum.inr 1, hi, xc x) := by
        by_cases c1 : a < 0
        · rw [if_pos c1]
        · rw [if_neg c1, if_neg (fun z => q ⟨c1, z⟩)]
      rw [e1]
      show Ck_ (ch_ 2 A _) (some ((2 : Int32), hi, xc x)) hi x 2 _
      exact Ck_.no (by decide) H
    | true =>
      obtain ⟨t1, t3⟩ := tk_n (by omega) eo
      obtain ⟨c1, c2⟩ := of_decide_eq_true eo
      obtain ⟨h2, e2, H2, f2⟩ := C_clear H
      obtain ⟨h3, x3, e3, H3, f3, X3⟩ := C_row2 (G := G) (r := an_ a) hG hO e t1 (nn A.w 1) 0 G h2 x (Nat.zero_add _) (by omega) H2
      rw [← t3] at e3
      rw [if_neg c1, if_pos c2, e2, bs]
      have e3 : sh_X9_writeRow_42 G a G (0 : Int32) h2 x = some (Sum.inl (nI (nn A.w 1)), h3, x3) := e3
      show Ck_ (B_row A a) (bW2 (sh_X9_writeRow_42 G a G (0 : Int32) h2 x) _ _) hi x 0 _
      rw [e3]
      exact ⟨h3, _, rfl, fun _ => rfl, H3.cx rfl, f2.trans f3, X3.l⟩
theorem Mf_writeRow (hG : 501 < G) (hO : Ok_ K A) (H : RM A hi) : Mk_ (ch_ (lt2_ A (tk_ a (nn A.w 0))) A (B_row A a)) (sh_X10_writeRow G a hi) hi (lt2_ A (tk_ a (nn A.w 0))) (nI (nn A.w 1)) := by
  have e9 : sh_X10_writeRow G a hi = sh_X10_writeRow_33 G a (b2 (A.ld && tk_ a (nn A.w 0))) (hi (za 195) 6) hi := by
    unfold sh_X10_writeRow sh_X10_writeRow_32
    rw [H.1.2.2.2.2.1]
    cases e : A.ld with
    | false => rfl
    | true =>
      have hr := (hO.ib e).1.r
      rw [if_neg (by decide), m_0 hi, H.mw e, hr.1, in_tk (by omega), eq_of]
      cases tk_ a (nn A.w 0) <;> rfl
  rw [e9]
  unfold sh_X10_writeRow_33
  rw [M_mayT H, bs]
  refine MH_ H ?_
  unfold lt2_
  cases e : A.ld with
  | false => exact Or.inr ⟨(show (1 : Int32) ≠ 0 by decide), rfl⟩
  | true =>
    cases eo : tk_ a (nn A.w 0) with
    | false => exact Or.inr ⟨(show (2 : Int32) ≠ 0 by decide), rfl⟩
    | true =>
      have hI := hO.ib e
      have hr := hI.1.r
      have hc := hI.1.c
      obtain ⟨t1, t3⟩ := tk_n (by omega) eo
      have H0 := H.u0 (v := 0)
      have H2 : RM (t0_ A) (am_u (am_u hi (za 195) 0 0) (za 195) 21 0) := H0.t (fun b k q1 q2 => by
        by_cases e : b = za 195
        · subst e
          exact au_k (fun q => q2 ⟨rfl, q⟩)
        · exact au_a e) au_ (fun k hk => absurd hk (Nat.not_lt_zero _))
      obtain ⟨h3, e3, H3, f3, c3⟩ := M_row2 (G := G) (r := an_ a) hG hO e t1 (nn A.w 1) 0 G _ (Nat.zero_add _) (by omega) H2
      rw [← t3] at e3
      have e3 : sh_X10_writeRow_48 G a G (0 : Int32) (am_u (am_u hi (za 195) 0 0) (za 195) 21 0) = some (nI (nn A.w 1), h3) := e3
      refine Or.inl ⟨rfl, h3, e3, c3.trans ((au_k (by omega)).trans au_), H3, (((fM_.refl hi).u0).u0).trans f3⟩
def ob_ (A : As_) (a : Int32) : Int32 := if tk_ a A.tn = true then 0 else 1
theorem Cf_outputByte (hO : Ok_ K A) (H : RC A hi x) : Ck_ A (sh_L_outputByte a hi x) hi x (ob_ A a) (nI (A.tx (an_ a))) := by
  obtain ⟨d1, d2, d3, d4⟩ := H.2.2.2
  unfold sh_L_outputByte sh_X9_outputByte ob_
  have el : sh_J4_length_8abf5 hi = nI A.tn := d2
  rw [el]
  cases eo : tk_ a A.tn with
  | false =>
    have q := of_decide_eq_false eo
    have e1 : (if a < 0 then some (Sum.inr 1, hi, xc x) else if a < nI A.tn then (sh_J4_charAt_5068e a hi x).bind fun v1 => some (Sum.inl v1.1, v1.2.1, v1.2.2) else some (Sum.inr 1, hi, xc x) : Option ((Int32 ⊕ Nat) × HI × AX)) = some (Sum.inr 1, hi, xc x) := by
      by_cases c1 : a < 0
      · rw [if_pos c1]
      · rw [if_neg c1, if_neg (fun z => q ⟨c1, z⟩)]
    rw [e1]
    show Ck_ A (some ((1 : Int32), hi, xc x)) hi x 1 _
    exact Ck_.no (by decide) H
  | true =>
    have hn := hO.2.2.2.2.2.1
    obtain ⟨t1, t3⟩ := tk_n (by omega) eo
    obtain ⟨c1, c2⟩ := of_decide_eq_true eo
    have hy := hO.2.2.2.2.2.2 (an_ a) t1
    obtain ⟨y1, y2⟩ := ch_y _ hy
    have e0 : 0 ≤ a := by
      have q : 0 ≤ nI (an_ a) := nI_pos' (by omega)
      rw [← t3] at q
      exact q
    have ea : a.toNatClampNeg = an_ a := rfl
    have ec : sh_J4_charAt_5068e a hi x = some (nI (A.tx (an_ a)), hi, x) := by
      unfold sh_J4_charAt_5068e sh_J5_charAt_5068e
      have em : (if nI x.2.2.2.1 < nI A.tn then nI x.2.2.2.1 else nI A.tn) = nI A.tn := if_neg (fun z => by have := (nI_ltI (by omega) (by omega)).mp z; omega)
      rw [d1, d2, sh0_, em, if_pos (show 0 ≤ a ∧ a < nI A.tn from ⟨e0, c2⟩), if_neg (fun q => q rfl), ea, if_pos (show 0 ≤ a ∧ an_ a < x.2.2.2.1 from ⟨e0, by omega⟩), d3 _ t1, y1, if_pos y2, bs, if_pos y2]
    rw [if_neg c1, if_pos c2, ec, bs]
    exact Ck_.ok H
theorem Mf_outputByte (hO : Ok_ K A) (H : RM A hi) : Mk_ A (sh_X10_outputByte a hi) hi (ob_ A a) (nI (A.tx (an_ a))) := by
  obtain ⟨d1, d2⟩ := H.2.2.2
  have hn := hO.2.2.2.2.2.1
  unfold sh_X10_outputByte ob_
  rw [d1, in_tk (by omega), show (1 : Int32) = b2 true from rfl, M_may, bs]
  cases eo : tk_ a A.tn with
  | false => exact Mk_.no (c := 1) (by decide) H
  | true =>
    obtain ⟨t1, t3⟩ := tk_n (by omega) eo
    have e0 : 0 ≤ a := by
      have q : 0 ≤ nI (an_ a) := nI_pos' (by omega)
      rw [← t3] at q
      exact q
    have ea : a.toNatClampNeg = an_ a := rfl
    show Mk_ A (if 0 ≤ a ∧ a.toNatClampNeg < 200 then some (am_u hi (za 195) 0 0 (za 202) a.toNatClampNeg, am_u hi (za 195) 0 0) else none) hi 0 _
    rw [ea, if_pos ⟨e0, by omega⟩, au_a (ne_za (by omega)), d2 _ t1]
    exact Mk_.ok H
end WS
