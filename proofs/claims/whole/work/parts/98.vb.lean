/-! the law's comparisons, by the relation -/
section TL
variable {A A' : As_} {hi h h1 : HI} {x x1 : AX} {K G : Nat} {ρ : Type}
theorem lg_r (v : Int64) : lg_cmp v v = 0 := by
  unfold lg_cmp
  simp
theorem tl_ {T : Option (Int32 × HI)} {code val : Int32} {l : Int64} {J F0 F1 : HI → Option ρ} (m : Mk_ A' T h1 code val) (hl : code = 0 → l = val.toInt64) : ∃ h2, (T.bind fun v => if sh_X10_thrown v.2 = code then if code ≠ 0 then J v.2 else if lg_cmp l v.1.toInt64 = 0 then J v.2 else F0 v.2 else F1 v.2) = J h2 ∧ RM A' h2 ∧ fM_ h1 h2 := by
  obtain ⟨v, h2, e, e0, ev, H, f⟩ := m
  refine ⟨h2, ?_, H, f⟩
  rw [e, bs]
  show (if h2 (za 195) 0 = code then if code ≠ 0 then J h2 else if lg_cmp l v.toInt64 = 0 then J h2 else F0 h2 else F1 h2) = J h2
  rw [if_pos e0]
  by_cases c : code = 0
  · rw [if_neg (fun q => q c), hl c, ev c, lg_r, if_pos rfl]
  · rw [if_pos c]
/-- a yes or a no -/
theorem tlb_ {T : Option (Int32 × HI)} {code : Int32} {val : Bool} {l : Int64} {J F0 F1 : HI → Option ρ} {P : Int64 → HI → Option ρ} (hP : ∀ t h, P t h = if lg_cmp l t = 0 then J h else F0 h) (m : Mk_ A' T h1 code (b2 val)) (hl : code = 0 → l = (b2 val).toInt64) : ∃ h2, (T.bind fun v => if sh_X10_thrown v.2 = code then if code ≠ 0 then J v.2 else if v.1 = 0 then P (Int64.ofNat 0) v.2 else P (Int64.ofNat 1) v.2 else F1 v.2) = J h2 ∧ RM A' h2 ∧ fM_ h1 h2 := by
  obtain ⟨v, h2, e, e0, ev, H, f⟩ := m
  refine ⟨h2, ?_, H, f⟩
  rw [e, bs]
  show (if h2 (za 195) 0 = code then if code ≠ 0 then J h2 else if v = 0 then P (Int64.ofNat 0) h2 else P (Int64.ofNat 1) h2 else F1 h2) = J h2
  rw [if_pos e0]
  by_cases c : code = 0
  · rw [if_neg (fun q => q c), ev c]
    cases val with
    | true =>
      rw [if_neg (by decide), hP, hl c, show Int64.ofNat 1 = (b2 true).toInt64 from rfl, lg_r, if_pos rfl]
    | false =>
      rw [if_pos (show b2 false = 0 from rfl), hP, hl c, show Int64.ofNat 0 = (b2 false).toInt64 from rfl, lg_r, if_pos rfl]
  · rw [if_pos c]
/-- behind a call of the class's: what the law sees -/
theorem hd_ {S : Option (Int32 × HI × AX)} {code val : Int32} (c : Ck_ A' S hi x code val) (H : RM A hi) : ∃ h1 x1, S = some (code, h1, x1) ∧ (code = 0 → x1.2.1 = val.toInt64) ∧ RC A' h1 x1 ∧ RM A h1 ∧ (∀ k, h1 (za 3004) k = hi (za 3004) k) ∧ XB x x1 := by
  obtain ⟨h1, x1, e, ev, H1, f, X⟩ := c
  exact ⟨h1, x1, e, ev, H1, H.cg f, fun k => f _ _ (Or.inr rfl), X⟩
theorem fM_w (f : fM_ h h1) (k : Nat) : h1 (za 3004) k = h (za 3004) k := f _ _ (md_za (by omega))
/-- both: no word of the script is named -/
theorem br0_ {S : Option (Int32 × HI × AX)} {T : HI → Option (Int32 × HI)} {code val : Int32} {J F0 F1 : HI → AX → Option ρ} (HM : RM A hi) (cS : Ck_ A' S hi x code val) (cT : ∀ h1, RM A h1 → Mk_ A' (T h1) h1 code val) : ∃ h2 x2, (S.bind fun v => (T v.2.1).bind fun u => if sh_X10_thrown u.2 = v.1 then if v.1 ≠ 0 then J u.2 v.2.2 else if lg_cmp v.2.2.2.1 u.1.toInt64 = 0 then J u.2 v.2.2 else F0 u.2 v.2.2 else F1 u.2 v.2.2) = J h2 x2 ∧ RC A' h2 x2 ∧ RM A' h2 ∧ (∀ k, h2 (za 3004) k = hi (za 3004) k) ∧ XB x x2 := by
  obtain ⟨h1, x1, e, ev, H1, HM1, w1, X⟩ := hd_ cS HM
  obtain ⟨h2, e2, H2, f2⟩ := tl_ (l := x1.2.1) (J := fun h => J h x1) (F0 := fun h => F0 h x1) (F1 := fun h => F1 h x1) (cT h1 HM1) ev
  refine ⟨h2, x1, ?_, H1.cg f2, H2, fun k => (fM_w f2 k).trans (w1 k), X⟩
  rw [e, bs]
  exact e2
theorem br0b {S : Option (Int32 × HI × AX)} {T : HI → Option (Int32 × HI)} {code : Int32} {val : Bool} {J F0 F1 : HI → AX → Option ρ} {P : Int64 → Int64 → HI → AX → Option ρ} (hP : ∀ t l h x, P t l h x = if lg_cmp l t = 0 then J h x else F0 h x) (HM : RM A hi) (cS : Ck_ A' S hi x code (b2 val)) (cT : ∀ h1, RM A h1 → Mk_ A' (T h1) h1 code (b2 val)) : ∃ h2 x2, (S.bind fun v => (T v.2.1).bind fun u => if sh_X10_thrown u.2 = v.1 then if v.1 ≠ 0 then J u.2 v.2.2 else if u.1 = 0 then P (Int64.ofNat 0) v.2.2.2.1 u.2 v.2.2 else P (Int64.ofNat 1) v.2.2.2.1 u.2 v.2.2 else F1 u.2 v.2.2) = J h2 x2 ∧ RC A' h2 x2 ∧ RM A' h2 ∧ (∀ k, h2 (za 3004) k = hi (za 3004) k) ∧ XB x x2 := by
  obtain ⟨h1, x1, e, ev, H1, HM1, w1, X⟩ := hd_ cS HM
  obtain ⟨h2, e2, H2, f2⟩ := tlb_ (l := x1.2.1) (J := fun h => J h x1) (F0 := fun h => F0 h x1) (F1 := fun h => F1 h x1) (P := fun t h => P t x1.2.1 h x1) (fun t h => hP t x1.2.1 h x1) (cT h1 HM1) ev
  refine ⟨h2, x1, ?_, H1.cg f2, H2, fun k => (fM_w f2 k).trans (w1 k), X⟩
  rw [e, bs]
  exact e2
/-- .. one word is named, at place n -/
theorem br1_ {S : Int32 → Option (Int32 × HI × AX)} {T : Int32 → HI → Option (Int32 × HI)} {code val : Int32} {J F0 F1 : HI → AX → Option ρ} {i : Int32} (hin : 0 ≤ i ∧ i.toNatClampNeg < x.2.2.2.2.2.2) (HM : RM A hi) (cS : Ck_ A' (S (hi (za 3004) i.toNatClampNeg)) hi x code val) (cT : ∀ h1, RM A h1 → Mk_ A' (T (hi (za 3004) i.toNatClampNeg) h1) h1 code val) : ∃ h2 x2, (if 0 ≤ i ∧ i.toNatClampNeg < x.2.2.2.2.2.2 then (S (hi (za 3004) i.toNatClampNeg)).bind fun v => if 0 ≤ i ∧ i.toNatClampNeg < v.2.2.2.2.2.2.2.2 then (T (v.2.1 (za 3004) i.toNatClampNeg) v.2.1).bind fun u => if sh_X10_thrown u.2 = v.1 then if v.1 ≠ 0 then J u.2 v.2.2 else if lg_cmp v.2.2.2.1 u.1.toInt64 = 0 then J u.2 v.2.2 else F0 u.2 v.2.2 else F1 u.2 v.2.2 else none else none) = J h2 x2 ∧ RC A' h2 x2 ∧ RM A' h2 ∧ (∀ k, h2 (za 3004) k = hi (za 3004) k) ∧ XB x x2 := by
  obtain ⟨h1, x1, e, ev, H1, HM1, w1, X⟩ := hd_ cS HM
  obtain ⟨h2, e2, H2, f2⟩ := tl_ (l := x1.2.1) (J := fun h => J h x1) (F0 := fun h => F0 h x1) (F1 := fun h => F1 h x1) (cT h1 HM1) ev
  refine ⟨h2, x1, ?_, H1.cg f2, H2, fun k => (fM_w f2 k).trans (w1 k), X⟩
  rw [if_pos hin, e, bs]
  show (if 0 ≤ i ∧ i.toNatClampNeg < x1.2.2.2.2.2.2 then (T (h1 (za 3004) i.toNatClampNeg) h1).bind _ else none) = _
  rw [X.1, if_pos hin, w1]
  exact e2
theorem br1b {S : Int32 → Option (Int32 × HI × AX)} {T : Int32 → HI → Option (Int32 × HI)} {code : Int32} {val : Bool} {J F0 F1 : HI → AX → Option ρ} {P : Int64 → Int64 → HI → AX → Option ρ} {i : Int32} (hP : ∀ t l h x, P t l h x = if lg_cmp l t = 0 then J h x else F0 h x) (hin : 0 ≤ i ∧ i.toNatClampNeg < x.2.2.2.2.2.2) (HM : RM A hi) (cS : Ck_ A' (S (hi (za 3004) i.toNatClampNeg)) hi x code (b2 val)) (cT : ∀ h1, RM A h1 → Mk_ A' (T (hi (za 3004) i.toNatClampNeg) h1) h1 code (b2 val)) : ∃ h2 x2, (if 0 ≤ i ∧ i.toNatClampNeg < x.2.2.2.2.2.2 then (S (hi (za 3004) i.toNatClampNeg)).bind fun v => if 0 ≤ i ∧ i.toNatClampNeg < v.2.2.2.2.2.2.2.2 then (T (v.2.1 (za 3004) i.toNatClampNeg) v.2.1).bind fun u => if sh_X10_thrown u.2 = v.1 then if v.1 ≠ 0 then J u.2 v.2.2 else if u.1 = 0 then P (Int64.ofNat 0) v.2.2.2.1 u.2 v.2.2 else P (Int64.ofNat 1) v.2.2.2.1 u.2 v.2.2 else F1 u.2 v.2.2 else none else none) = J h2 x2 ∧ RC A' h2 x2 ∧ RM A' h2 ∧ (∀ k, h2 (za 3004) k = hi (za 3004) k) ∧ XB x x2 := by
  obtain ⟨h1, x1, e, ev, H1, HM1, w1, X⟩ := hd_ cS HM
  obtain ⟨h2, e2, H2, f2⟩ := tlb_ (l := x1.2.1) (J := fun h => J h x1) (F0 := fun h => F0 h x1) (F1 := fun h => F1 h x1) (P := fun t h => P t x1.2.1 h x1) (fun t h => hP t x1.2.1 h x1) (cT h1 HM1) ev
  refine ⟨h2, x1, ?_, H1.cg f2, H2, fun k => (fM_w f2 k).trans (w1 k), X⟩
  rw [if_pos hin, e, bs]
  show (if 0 ≤ i ∧ i.toNatClampNeg < x1.2.2.2.2.2.2 then (T (h1 (za 3004) i.toNatClampNeg) h1).bind _ else none) = _
  rw [X.1, if_pos hin, w1]
  exact e2
end TL
