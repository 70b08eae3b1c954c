/-! THE RELATION of the class's state and the model's: one state that both show -/
def As_ : Type := (Bool × Wd) × (List Wd × (Nat → Option Wd)) × (Nat × (Nat → Nat)) × (Int32 × Int32) × (Nat × (Nat → Nat))
def As_.ld (A : As_) : Bool := A.1.1
def As_.w (A : As_) : Wd := A.1.2
def As_.ps (A : As_) : List Wd := A.2.1.1
def As_.sv (A : As_) : Nat → Option Wd := A.2.1.2
def As_.nb (A : As_) : Nat := A.2.2.1.1
def As_.b (A : As_) : Nat → Nat := A.2.2.1.2
def As_.ec (A : As_) : Int32 := A.2.2.2.1.1
def As_.ep (A : As_) : Int32 := A.2.2.2.1.2
def As_.tn (A : As_) : Nat := A.2.2.2.2.1
def As_.tx (A : As_) : Nat → Nat := A.2.2.2.2.2
/-- a row of the model that lies somewhere -/
def rw_ (hi : HI) (a : AA) (o : Nat) : Wd := nz (fun k => if k < 424 ∧ k ≠ 25 then hi a (o + k) else 0)
def Ok_ (K : Nat) (A : As_) : Prop := A.nb ≤ 500 ∧ A.ps.length ≤ 8 ∧ (A.ld = true → ib_ K (5 * K) 0 A.w) ∧ (∀ v ∈ A.ps, ib_ K (5 * K) 0 v) ∧ (∀ k v, A.sv k = some v → ib_ K (5 * K) 0 v) ∧ A.tn ≤ 200 ∧ ∀ k, k < A.tn → A.tx k < 128
def RC (A : As_) (hi : HI) (x : AX) : Prop :=
  (hi (za 0) 6 = nI A.nb ∧ By_ hi A.b ∧ hi (za 34) 9 = A.ec ∧ hi (za 34) 10 = A.ep ∧ hi (za 0) 7 = b2 A.ld ∧ (A.ld = true → vw_ 0 hi = A.w)) ∧ (∃ p, p < 8 ∧ hi (za 41) 3 = nI p ∧ hi (za 41) 4 = nI A.ps.length ∧ ∀ j v, A.ps[j]? = some v → vw_ (Fin.ofNat 12 (2 + (p + 7 - j) % 8)) hi = v) ∧ (∀ k, k < 2 → hi (za 44) k = b2 (A.sv k).isSome ∧ ∀ v, A.sv k = some v → vw_ (Fin.ofNat 12 (10 + k)) hi = v) ∧ (hi (za 2) 1 = 0 ∧ hi (za 2) 3 = nI A.tn ∧ (∀ k, k < A.tn → hi (za 3) k = nI (A.tx k)) ∧ A.tn ≤ x.2.2.2.1 ∧ x.2.2.2.1 ≤ 30000 ∧ am_by (hi (za 3)) x.2.2.2.1 = true)
theorem by_eq {f g : Nat → Int32} {n : Nat} {a b : Prop} (e : ∀ k, g k = f k) (h : a ∧ b ∧ am_by f n = true) : a ∧ b ∧ am_by g n = true := by
  rw [show g = f from funext e]
  exact h
theorem by_iff {f : Nat → Int32} {n : Nat} : am_by f n = true ↔ ∀ k, k < n → (f k).toInt8.toInt32 = f k := by
  unfold am_by
  rw [List.all_eq_true]
  constructor
  · intro h k hk
    exact of_decide_eq_true (h k (List.mem_range.mpr hk))
  · intro h k hk
    exact decide_eq_true (h k (List.mem_range.mp hk))
def RM (A : As_) (hi : HI) : Prop :=
  (hi (za 195) 9 = nI A.nb ∧ Mb_ hi A.b ∧ hi (za 195) 10 = A.ec ∧ hi (za 195) 11 = A.ep ∧ hi (za 195) 6 = b2 A.ld ∧ (A.ld = true → mw_ hi = A.w)) ∧ (hi (za 195) 7 = nI A.ps.length ∧ ∀ j v, A.ps[j]? = some v → rw_ hi (za 198) (424 * (A.ps.length - 1 - j)) = v) ∧ (∀ k, k < 2 → hi (za 200) k = b2 (A.sv k).isSome ∧ ∀ v, A.sv k = some v → rw_ hi (za 199) (424 * k) = v) ∧ (hi (za 195) 21 = nI A.tn ∧ ∀ k, k < A.tn → hi (za 202) k = nI (A.tx k))
/-- the model's arrays -/
def md_ (a : AA) : Prop := a = za 195 ∨ a = za 196 ∨ a = za 197 ∨ a = za 198 ∨ a = za 199 ∨ a = za 200 ∨ a = za 201 ∨ a = za 202
def fC_ (h h1 : HI) : Prop := ∀ a k, md_ a ∨ a = za 3004 → h1 a k = h a k
def fM_ (h h1 : HI) : Prop := ∀ a k, ¬ md_ a → h1 a k = h a k
theorem fC_.refl (h : HI) : fC_ h h := fun _ _ _ => rfl
theorem fM_.refl (h : HI) : fM_ h h := fun _ _ _ => rfl
theorem fC_.trans {h h1 h2 : HI} (a : fC_ h h1) (b : fC_ h1 h2) : fC_ h h2 := fun x k c => (b x k c).trans (a x k c)
theorem fM_.trans {h h1 h2 : HI} (a : fM_ h h1) (b : fM_ h1 h2) : fM_ h h2 := fun x k c => (b x k c).trans (a x k c)
theorem md_za {n : Nat} (h : n < 195 ∨ 202 < n) : ¬ md_ (za n) := fun q => by
  have e : ∀ m, za n = za m → n = m := fun m e => by
    have e : (Sum.inr (Sum.inr n) : AA) = Sum.inr (Sum.inr m) := e
    injection e with e
    injection e
  rcases q with q | q | q | q | q | q | q | q <;> (have := e _ q; omega)
theorem md_wa {i : Fin 12} {j : Nat} : ¬ md_ (wa i j) := fun q => by
  rcases q with q | q | q | q | q | q | q | q <;> cases q
theorem fr_fC {i : Fin 12} {h h1 : HI} (f : fr_ i h h1) : fC_ h h1 := fun a k c => f a k (fun j q => by
  rcases c with c | c
  · exact md_wa (q ▸ c)
  · rw [q] at c; cases c)
theorem fm_fM {h h1 : HI} (f : fm_ h h1) : fM_ h h1 := fun a k c => f a k (fun q => c (Or.inr (Or.inl q)))
section RLL
variable {A : As_} {hi h1 : HI} {x x1 : AX}
theorem RC.cg (H : RC A hi x) (f : fM_ hi h1) : RC A h1 x := by
  obtain ⟨⟨a1, a2, a3, a4, a5, a6⟩, ⟨p, b1, b2', b3, b4⟩, c, d1, d2, d3, d4⟩ := H
  have hv : ∀ i, vw_ i h1 = vw_ i hi := fun i => V_f (fun j k => f _ _ md_wa)
  refine ⟨⟨(f _ _ (md_za (by omega))).trans a1, fun k hk => ?_, (f _ _ (md_za (by omega))).trans a3, (f _ _ (md_za (by omega))).trans a4, (f _ _ (md_za (by omega))).trans a5, fun q => (hv 0).trans (a6 q)⟩, ⟨p, b1, (f _ _ (md_za (by omega))).trans b2', (f _ _ (md_za (by omega))).trans b3, fun j v q => (hv _).trans (b4 j v q)⟩, fun k hk => ⟨(f _ _ (md_za (by omega))).trans (c k hk).1, fun v q => (hv _).trans ((c k hk).2 v q)⟩, (f _ _ (md_za (by omega))).trans d1, (f _ _ (md_za (by omega))).trans d2, fun k hk => (f _ _ (md_za (by omega))).trans (d3 k hk), by_eq (fun k => (f _ _ (md_za (by omega)))) d4⟩
  rw [f _ _ (md_za (by omega))]
  exact a2 k hk
theorem RC.cx (H : RC A hi x) (e : x1.2.2.2.1 = x.2.2.2.1) : RC A hi x1 := ⟨H.1, H.2.1, H.2.2.1, H.2.2.2.1, H.2.2.2.2.1, H.2.2.2.2.2.1, by rw [e]; exact H.2.2.2.2.2.2⟩
theorem RM.cg (H : RM A hi) (f : fC_ hi h1) : RM A h1 := by
  obtain ⟨⟨a1, a2, a3, a4, a5, a6⟩, ⟨b1, b2'⟩, c, d1, d2⟩ := H
  have g : ∀ {a : AA}, md_ a → ∀ k, h1 a k = hi a k := fun m k => f _ k (Or.inl m)
  have m5 : md_ (za 195) := Or.inl rfl
  have m8 : md_ (za 198) := Or.inr (Or.inr (Or.inr (Or.inl rfl)))
  have m9 : md_ (za 199) := Or.inr (Or.inr (Or.inr (Or.inr (Or.inl rfl))))
  have m10 : md_ (za 200) := Or.inr (Or.inr (Or.inr (Or.inr (Or.inr (Or.inl rfl)))))
  have m11 : md_ (za 201) := Or.inr (Or.inr (Or.inr (Or.inr (Or.inr (Or.inr (Or.inl rfl))))))
  have m12 : md_ (za 202) := Or.inr (Or.inr (Or.inr (Or.inr (Or.inr (Or.inr (Or.inr rfl))))))
  have hr : ∀ {a : AA} o, md_ a → rw_ h1 a o = rw_ hi a o := fun o m => by
    unfold rw_
    congr 1
    funext k
    rw [g m]
  refine ⟨⟨(g m5 _).trans a1, fun k hk => ?_, (g m5 _).trans a3, (g m5 _).trans a4, (g m5 _).trans a5, fun q => (M_o (fun k => g (Or.inr (Or.inl rfl)) k)).trans (a6 q)⟩, ⟨(g m5 _).trans b1, fun j v q => (hr _ m8).trans (b2' j v q)⟩, fun k hk => ⟨(g m10 _).trans (c k hk).1, fun v q => (hr _ m9).trans ((c k hk).2 v q)⟩, (g m5 _).trans d1, fun k hk => (g m12 _).trans (d2 k hk)⟩
  rw [g m11]
  exact a2 k hk
/-- the model's code of the last call may change -/
theorem RM.u0 {v : Int32} (H : RM A hi) : RM A (am_u hi (za 195) 0 v) := by
  obtain ⟨⟨a1, a2, a3, a4, a5, a6⟩, ⟨b1, b2'⟩, c, d1, d2⟩ := H
  have hr : ∀ {a : AA} o, a ≠ za 195 → rw_ (am_u hi (za 195) 0 v) a o = rw_ hi a o := fun o m => by
    unfold rw_
    congr 1
    funext k
    rw [au_a m]
  refine ⟨⟨(au_k (by omega)).trans a1, fun k hk => ?_, (au_k (by omega)).trans a3, (au_k (by omega)).trans a4, (au_k (by omega)).trans a5, fun q => (M_o (fun k => au_a (fun q => by cases q))).trans (a6 q)⟩, ⟨(au_k (by omega)).trans b1, fun j v q => (hr _ (fun q => by cases q)).trans (b2' j v q)⟩, fun k hk => ⟨(au_a (fun q => by cases q)).trans (c k hk).1, fun v q => (hr _ (fun q => by cases q)).trans ((c k hk).2 v q)⟩, (au_k (by omega)).trans d1, fun k hk => (au_a (fun q => by cases q)).trans (d2 k hk)⟩
  rw [au_a (fun q => by cases q)]
  exact a2 k hk
theorem fM_.u0 {h : HI} {k : Nat} {v : Int32} (f : fM_ hi h) : fM_ hi (am_u h (za 195) k v) := fun a j c => (au_a (fun q => c (Or.inl q))).trans (f a j c)
/-- what a call may add of cells: rows, ints -/
def XB (x x1 : AX) : Prop := x1.2.2.2.2.2.2 = x.2.2.2.2.2.2 ∧ x1.2.2.2.2.1 + x.2.2.2.1 ≤ x.2.2.2.2.1 + x1.2.2.2.1 + 8 ∧ x1.2.2.2.2.2.1 + 2 * x.2.2.2.1 ≤ x.2.2.2.2.2.1 + 2 * x1.2.2.2.1 + 2000
/-- a call of the class's, seen by the law -/
def Ck_ (A' : As_) (S : Option (Int32 × HI × AX)) (hi : HI) (x : AX) (code val : Int32) : Prop := ∃ h1 x1, S = some (code, h1, x1) ∧ (code = 0 → x1.2.1 = val.toInt64) ∧ RC A' h1 x1 ∧ fC_ hi h1 ∧ XB x x1
/-- a call of the model's -/
def Mk_ (A' : As_) (S : Option (Int32 × HI)) (hi : HI) (code val : Int32) : Prop := ∃ v h1, S = some (v, h1) ∧ h1 (za 195) 0 = code ∧ (code = 0 → v = val) ∧ RM A' h1 ∧ fM_ hi h1
theorem XB.l {v : Int64} : XB x (xl x v) := ⟨rfl, Nat.le_add_right _ _, Nat.le_add_right _ _⟩
theorem XB.c : XB x (xc x) := ⟨rfl, by show x.2.2.2.2.1 + 1 + x.2.2.2.1 ≤ _; show _ ≤ x.2.2.2.2.1 + x.2.2.2.1 + 8; omega, by show x.2.2.2.2.2.1 + 6 + 2 * x.2.2.2.1 ≤ x.2.2.2.2.2.1 + 2 * x.2.2.2.1 + 2000; omega⟩
theorem Ck_.ok {v : Int32} (H : RC A hi x) : Ck_ A (some ((0 : Int32), hi, xl x v.toInt64)) hi x 0 v := ⟨hi, _, rfl, fun _ => rfl, H.cx rfl, fC_.refl hi, XB.l⟩
theorem Ck_.no {c v : Int32} (hc : c ≠ 0) (H : RC A hi x) : Ck_ A (some (c, hi, xc x)) hi x c v := ⟨hi, _, rfl, fun q => absurd q hc, H.cx rfl, fC_.refl hi, XB.c⟩
/-! first questions -/
theorem rq_ (H : RC A hi x) : sh_X9_requireSetup hi = some (if A.ld = true then Sum.inl () else Sum.inr 0) := by
  unfold sh_X9_requireSetup
  rw [H.1.2.2.2.2.1]
  cases A.ld <;> rfl
/-- a number that a set-up world has -/
theorem CG {v : Int32} {S : Option (Int32 ⊕ Nat)} (H : RC A hi x) (hS : S = bT (sh_X9_requireSetup hi) fun _ => some (Sum.inl v)) : Ck_ A (bW S (fun v2 => some ((0 : Int32), hi, xl x v2.toInt64)) (fun E => if E = 0 then some ((1 : Int32), hi, xc x) else none)) hi x (if A.ld = true then 0 else 1) v := by
  rw [hS, rq_ H]
  cases A.ld with
  | true => exact Ck_.ok H
  | false => exact Ck_.no (by decide) H
/-- .. and one that is a yes or a no -/
theorem CGb {v : Bool} {S : Option (Int32 ⊕ Nat)} (H : RC A hi x) (hS : S = bT (sh_X9_requireSetup hi) fun _ => some (Sum.inl (b2 v))) : Ck_ A (bW S (fun v2 => if v2 = 0 then some ((0 : Int32), hi, xl x (Int64.ofNat 0)) else some ((0 : Int32), hi, xl x (Int64.ofNat 1))) (fun E => if E = 0 then some ((1 : Int32), hi, xc x) else none)) hi x (if A.ld = true then 0 else 1) (b2 v) := by
  rw [hS, rq_ H]
  cases A.ld with
  | true =>
    cases v with
    | true => exact ⟨hi, _, rfl, fun _ => rfl, H.cx rfl, fC_.refl hi, XB.l⟩
    | false => exact ⟨hi, _, rfl, fun _ => rfl, H.cx rfl, fC_.refl hi, XB.l⟩
  | false => exact Ck_.no (by decide) H
theorem M_may {a b c : Bool} : sh_X10_may (b2 a) (b2 b) (b2 c) hi = some (b2 (a && b && c), am_u hi (za 195) 0 (if a = true then (if b = true then (if c = true then 0 else 3) else 2) else 1)) := by
  unfold sh_X10_may sh_X10_may_26
  rw [ne_of, ne_of, eq_of, au_, au_, au_, au_]
  cases a <;> cases b <;> cases c <;> rfl
theorem M_mayTwo {a b : Bool} : sh_X10_mayTwo (b2 a) (b2 b) hi = some (b2 (a && b), am_u hi (za 195) 0 (if a = true then (if b = true then 0 else 2) else 1)) := by
  unfold sh_X10_mayTwo
  rw [show (1 : Int32) = b2 true from rfl, M_may (c := true), bs]
  cases a <;> cases b <;> rfl
theorem M_mayLook (H : RM A hi) : sh_X10_mayLook hi = some (b2 A.ld, am_u hi (za 195) 0 (if A.ld = true then 0 else 1)) := by
  unfold sh_X10_mayLook
  rw [H.1.2.2.2.2.1, show (1 : Int32) = b2 true from rfl, M_may (b := true) (c := true), bs]
  cases A.ld <;> rfl
theorem Mk_.no {c v u : Int32} (hc : c ≠ 0) (H : RM A hi) : Mk_ A (some (u, am_u hi (za 195) 0 c)) hi c v := ⟨u, _, rfl, au_, fun q => absurd q hc, H.u0, (fM_.refl hi).u0⟩
theorem Mk_.ok {v : Int32} (H : RM A hi) : Mk_ A (some (v, am_u hi (za 195) 0 0)) hi 0 v := ⟨v, _, rfl, au_, fun _ => rfl, H.u0, (fM_.refl hi).u0⟩
/-- the row behind the code -/
theorem mw_u0 {v : Int32} : mw_ (am_u hi (za 195) 0 v) = mw_ hi := M_o (fun k => au_a (fun q => by cases q))
theorem MG {T : HI → Option Int32} {v : Int32} {S : Option (Int32 × HI)} (H : RM A hi) (hS : S = (sh_X10_mayLook hi).bind fun v1 => if v1.1 = 0 then some ((0 : Int32), v1.2) else (T v1.2).bind fun v2 => some (v2, v1.2)) (hT : A.ld = true → ∀ h1, mw_ h1 = A.w → T h1 = some v) : Mk_ A S hi (if A.ld = true then 0 else 1) v := by
  rw [hS, M_mayLook H, bs]
  cases e : A.ld with
  | true =>
    show Mk_ A ((T (am_u hi (za 195) 0 0)).bind fun v2 => some (v2, am_u hi (za 195) 0 0)) hi 0 v
    rw [hT e _ (mw_u0.trans (H.1.2.2.2.2.2 e)), bs]
    exact Mk_.ok H
  | false => exact Mk_.no (by decide) H
theorem MGl {k : Nat} {v : Int32} {S : Option (Int32 × HI)} (hk : (k < 46 ∧ k ≠ 25) ∨ (84 ≤ k ∧ k < 404)) (H : RM A hi) (hS : S = (sh_X10_look (nI k) hi).bind fun v1 => some (v1.1, v1.2)) (hv : A.ld = true → A.w k = v) : Mk_ A S hi (if A.ld = true then 0 else 1) v := by
  rw [hS]
  unfold sh_X10_look
  rw [M_mayLook H, bs]
  cases e : A.ld with
  | true =>
    show Mk_ A ((if 0 ≤ nI k ∧ (nI k).toNatClampNeg < 424 then some (am_u hi (za 195) 0 0 (za 196) (nI k).toNatClampNeg, am_u hi (za 195) 0 0) else none).bind fun v1 => some (v1.1, v1.2)) hi 0 v
    rw [if_pos (ok4 (by omega)), nI_clamp (by omega), bs, M_r (am_u hi (za 195) 0 0) hk, mw_u0, H.1.2.2.2.2.2 e, hv e]
    exact Mk_.ok H
  | false => exact Mk_.no (by decide) H
end RLL
