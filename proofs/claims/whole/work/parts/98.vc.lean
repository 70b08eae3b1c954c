/-! more of the law's comparisons -/
section TM
variable {A A' : As_} {hi h h1 : HI} {x x1 : AX} {K G : Nat} {ρ : Type}
theorem br2_ {S : Int32 → Int32 → Option (Int32 × HI × AX)} {T : Int32 → Int32 → HI → Option (Int32 × HI)} {code val : Int32} {J F0 F1 : HI → AX → Option ρ} {i j : Int32} (hin : 0 ≤ i ∧ i.toNatClampNeg < x.2.2.2.2.2.2) (hjn : 0 ≤ j ∧ j.toNatClampNeg < x.2.2.2.2.2.2) (HM : RM A hi) (cS : Ck_ A' (S (hi (za 3004) i.toNatClampNeg) (hi (za 3004) j.toNatClampNeg)) hi x code val) (cT : ∀ h1, RM A h1 → Mk_ A' (T (hi (za 3004) i.toNatClampNeg) (hi (za 3004) j.toNatClampNeg) h1) h1 code val) : ∃ h2 x2, (if 0 ≤ i ∧ i.toNatClampNeg < x.2.2.2.2.2.2 then if 0 ≤ j ∧ j.toNatClampNeg < x.2.2.2.2.2.2 then (S (hi (za 3004) i.toNatClampNeg) (hi (za 3004) j.toNatClampNeg)).bind fun v => if 0 ≤ i ∧ i.toNatClampNeg < v.2.2.2.2.2.2.2.2 then if 0 ≤ j ∧ j.toNatClampNeg < v.2.2.2.2.2.2.2.2 then (T (v.2.1 (za 3004) i.toNatClampNeg) (v.2.1 (za 3004) j.toNatClampNeg) v.2.1).bind fun u => if sh_X10_thrown u.2 = v.1 then if v.1 ≠ 0 then J u.2 v.2.2 else if lg_cmp v.2.2.2.1 u.1.toInt64 = 0 then J u.2 v.2.2 else F0 u.2 v.2.2 else F1 u.2 v.2.2 else none else none else none else none) = J h2 x2 ∧ RC A' h2 x2 ∧ RM A' h2 ∧ (∀ k, h2 (za 3004) k = hi (za 3004) k) ∧ XB x x2 := by
  obtain ⟨h1, x1, e, ev, H1, HM1, w1, X⟩ := hd_ cS HM
  obtain ⟨h2, e2, H2, f2⟩ := tl_ (l := x1.2.1) (J := fun h => J h x1) (F0 := fun h => F0 h x1) (F1 := fun h => F1 h x1) (cT h1 HM1) ev
  refine ⟨h2, x1, ?_, H1.cg f2, H2, fun k => (fM_w f2 k).trans (w1 k), X⟩
  rw [if_pos hin, if_pos hjn, e, bs]
  show (if 0 ≤ i ∧ i.toNatClampNeg < x1.2.2.2.2.2.2 then if 0 ≤ j ∧ j.toNatClampNeg < x1.2.2.2.2.2.2 then (T (h1 (za 3004) i.toNatClampNeg) (h1 (za 3004) j.toNatClampNeg) h1).bind _ else none else none) = _
  rw [X.1, if_pos hin, if_pos hjn, w1, w1]
  exact e2
/-- averageWear -/
theorem brA_ {S : Option (Int32 × HI × AX)} {T : HI → Option (UInt64 × HI)} {code : Int32} {d : UInt64} {J F0 F1 : HI → AX → Option ρ} (HM : RM A hi) (cS : CkD A' S hi x code d) (cT : ∀ h1, RM A h1 → MkD A' (T h1) h1 code d) : ∃ h2 x2, (S.bind fun v => (T v.2.1).bind fun u => if sh_X10_thrown u.2 = v.1 then if v.1 ≠ 0 then J u.2 v.2.2 else if Op.cmpValue (FP.dcmp v.2.2.2.2.1 u.1) .l = 0 then J u.2 v.2.2 else if Op.cmpValue (FP.dcmp v.2.2.2.2.1 v.2.2.2.2.1) .l = 0 then F0 u.2 v.2.2 else if Op.cmpValue (FP.dcmp u.1 u.1) .l ≠ 0 then J u.2 v.2.2 else F0 u.2 v.2.2 else F1 u.2 v.2.2) = J h2 x2 ∧ RC A' h2 x2 ∧ RM A' h2 ∧ (∀ k, h2 (za 3004) k = hi (za 3004) k) ∧ XB x x2 := by
  obtain ⟨h1, x1, e, ev, H1, f1, X⟩ := cS
  obtain ⟨u, h2, e2, e0, eu, H2, f2⟩ := cT h1 (HM.cg f1)
  refine ⟨h2, x1, ?_, H1.cg f2, H2, fun k => (fM_w f2 k).trans (f1 _ _ (Or.inr rfl)), X⟩
  rw [e, bs]
  show ((T h1).bind fun u => if sh_X10_thrown u.2 = code then if code ≠ 0 then J u.2 x1 else if Op.cmpValue (FP.dcmp x1.2.2.1 u.1) .l = 0 then J u.2 x1 else if Op.cmpValue (FP.dcmp x1.2.2.1 x1.2.2.1) .l = 0 then F0 u.2 x1 else if Op.cmpValue (FP.dcmp u.1 u.1) .l ≠ 0 then J u.2 x1 else F0 u.2 x1 else F1 u.2 x1) = J h2 x1
  rw [e2, bs]
  show (if h2 (za 195) 0 = code then if code ≠ 0 then J h2 x1 else if Op.cmpValue (FP.dcmp x1.2.2.1 u) .l = 0 then J h2 x1 else if Op.cmpValue (FP.dcmp x1.2.2.1 x1.2.2.1) .l = 0 then F0 h2 x1 else if Op.cmpValue (FP.dcmp u u) .l ≠ 0 then J h2 x1 else F0 h2 x1 else F1 h2 x1) = J h2 x1
  rw [if_pos e0]
  by_cases c : code = 0
  · rw [if_neg (fun q => q c), ev c, eu c]
    by_cases z : Op.cmpValue (FP.dcmp d d) .l = 0
    · rw [if_pos z]
    · rw [if_neg z, if_neg z, if_pos z]
  · rw [if_pos c]
/-- litShare -/
theorem brL_ {S : Option (Int32 × HI × AX)} {T : HI → Option (UInt32 × HI)} {code : Int32} {z : UInt32} {J F0 F1 : HI → AX → Option ρ} (hz : code = 0 → FP.f2d z &&& 0x7fffffffffffffff ≤ 0x7ff0000000000000 ∧ Op.cmpValue (FP.dcmp (FP.f2d z) (FP.f2d z)) .l = 0) (HM : RM A hi) (cS : CkD A' S hi x code (FP.f2d z)) (cT : ∀ h1, RM A h1 → MkD A' (T h1) h1 code z) : ∃ h2 x2, (S.bind fun v => (T v.2.1).bind fun u => if sh_X10_thrown u.2 = v.1 then if v.1 ≠ 0 then J u.2 v.2.2 else if FP.f2d u.1 &&& 0x7fffffffffffffff ≤ 0x7ff0000000000000 then if Op.cmpValue (FP.dcmp v.2.2.2.2.1 (FP.f2d u.1)) .l = 0 then J u.2 v.2.2 else if Op.cmpValue (FP.dcmp v.2.2.2.2.1 v.2.2.2.2.1) .l = 0 then F0 u.2 v.2.2 else if Op.cmpValue (FP.fcmp u.1 u.1) .l ≠ 0 then J u.2 v.2.2 else F0 u.2 v.2.2 else none else F1 u.2 v.2.2) = J h2 x2 ∧ RC A' h2 x2 ∧ RM A' h2 ∧ (∀ k, h2 (za 3004) k = hi (za 3004) k) ∧ XB x x2 := by
  obtain ⟨h1, x1, e, ev, H1, f1, X⟩ := cS
  obtain ⟨u, h2, e2, e0, eu, H2, f2⟩ := cT h1 (HM.cg f1)
  refine ⟨h2, x1, ?_, H1.cg f2, H2, fun k => (fM_w f2 k).trans (f1 _ _ (Or.inr rfl)), X⟩
  rw [e, bs]
  show ((T h1).bind fun u => if sh_X10_thrown u.2 = code then if code ≠ 0 then J u.2 x1 else if FP.f2d u.1 &&& 0x7fffffffffffffff ≤ 0x7ff0000000000000 then if Op.cmpValue (FP.dcmp x1.2.2.1 (FP.f2d u.1)) .l = 0 then J u.2 x1 else if Op.cmpValue (FP.dcmp x1.2.2.1 x1.2.2.1) .l = 0 then F0 u.2 x1 else if Op.cmpValue (FP.fcmp u.1 u.1) .l ≠ 0 then J u.2 x1 else F0 u.2 x1 else none else F1 u.2 x1) = J h2 x1
  rw [e2, bs]
  show (if h2 (za 195) 0 = code then if code ≠ 0 then J h2 x1 else if FP.f2d u &&& 0x7fffffffffffffff ≤ 0x7ff0000000000000 then if Op.cmpValue (FP.dcmp x1.2.2.1 (FP.f2d u)) .l = 0 then J h2 x1 else if Op.cmpValue (FP.dcmp x1.2.2.1 x1.2.2.1) .l = 0 then F0 h2 x1 else if Op.cmpValue (FP.fcmp u u) .l ≠ 0 then J h2 x1 else F0 h2 x1 else none else F1 h2 x1) = J h2 x1
  rw [if_pos e0]
  by_cases c : code = 0
  · obtain ⟨z1, z2⟩ := hz c
    rw [if_neg (fun q => q c), ev c, eu c, if_pos z1, if_pos z2]
  · rw [if_pos c]
end TM
