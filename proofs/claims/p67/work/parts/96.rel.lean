/-! THE RELATION of the class's state and the model's: one state that both show -/
def As_ : Type := (Bool × Wd) × (List Wd × (Nat → Option Wd)) × (Nat × (Nat → Nat)) × (Int32 × Int32) × (Nat × (Nat → Nat))
def As_.ld (A : As_) : Bool := A.1.1
def As_.w (A : As_) : Wd := A.1.2
def As_.ps (A : As_) : List Wd := A.2.1.1
def As_.sv (A : As_) : Nat → Option Wd := A.2.1.2
def As_.nb (A : As_) : Nat := A.2.2.1.1
def As_.b (A : As_) : Nat → Nat := A.2.2.1.2
def As_.ec (A : As_) : Int32 := A.2.2.2.1.1
def As_.ep (A : As_) : Int32 := A.2.2.2.1.2
def As_.tn (A : As_) : Nat := A.2.2.2.2.1
def As_.tx (A : As_) : Nat → Nat := A.2.2.2.2.2
def Ok_ (K : Nat) (A : As_) : Prop := A.nb ≤ 500 ∧ A.ps.length ≤ 8 ∧ (A.ld = true → ib_ K (5 * K) 0 A.w) ∧ (∀ v ∈ A.ps, ib_ K (5 * K) 0 v) ∧ (∀ k v, A.sv k = some v → ib_ K (5 * K) 0 v) ∧ A.tn ≤ 200 ∧ ∀ k, k < A.tn → A.tx k < 128
def RC (A : As_) (hi : HI) (x : AX) : Prop :=
  (hi (za 0) 6 = nI A.nb ∧ By_ hi A.b ∧ hi (za 34) 9 = A.ec ∧ hi (za 34) 10 = A.ep ∧ hi (za 0) 7 = b2 A.ld ∧ (A.ld = true → vw_ 0 hi = A.w)) ∧ (∃ p, p < 8 ∧ hi (za 41) 3 = nI p ∧ hi (za 41) 4 = nI A.ps.length ∧ ∀ j v, A.ps[j]? = some v → vw_ (Fin.ofNat 12 (2 + (p + 7 - j) % 8)) hi = v) ∧ (∀ k, k < 2 → hi (za 44) k = b2 (A.sv k).isSome ∧ ∀ v, A.sv k = some v → vw_ (Fin.ofNat 12 (10 + k)) hi = v) ∧ (hi (za 2) 1 = 0 ∧ hi (za 2) 3 = nI A.tn ∧ (∀ k, k < A.tn → hi (za 3) k = nI (A.tx k)) ∧ A.tn ≤ x.2.2.2.1 ∧ x.2.2.2.1 ≤ 30000 ∧ am_by (hi (za 3)) x.2.2.2.1 = true)
theorem by_eq {f g : Nat → Int32} {n : Nat} {a b : Prop} (e : ∀ k, g k = f k) (h : a ∧ b ∧ am_by f n = true) : a ∧ b ∧ am_by g n = true := by
  rw [show g = f from funext e]
  exact h
theorem by_iff {f : Nat → Int32} {n : Nat} : am_by f n = true ↔ ∀ k, k < n → (f k).toInt8.toInt32 = f k := by
  unfold am_by
  rw [List.all_eq_true]
  constructor
  · intro h k hk
    exact of_decide_eq_true (h k (List.mem_range.mpr hk))
  · intro h k hk
    exact decide_eq_true (h k (List.mem_range.mp hk))
/-- the law's cells -/
def md_ (a : AA) : Prop := ∃ k i, a = da k i
/-- a piece of the class's: the law's cells and the script stay; a piece of the law's: the class's stay -/
def fC_ (h h1 : HI) : Prop := ∀ a k, md_ a ∨ a = za 3004 → h1 a k = h a k
def fM_ (h h1 : HI) : Prop := ∀ a k, ¬ md_ a → h1 a k = h a k
theorem fC_.refl (h : HI) : fC_ h h := fun _ _ _ => rfl
theorem fM_.refl (h : HI) : fM_ h h := fun _ _ _ => rfl
theorem fC_.trans {h h1 h2 : HI} (a : fC_ h h1) (b : fC_ h1 h2) : fC_ h h2 := fun x k c => (b x k c).trans (a x k c)
theorem fM_.trans {h h1 h2 : HI} (a : fM_ h h1) (b : fM_ h1 h2) : fM_ h h2 := fun x k c => (b x k c).trans (a x k c)
theorem md_z (n : Nat) : ¬ md_ (za n) := fun ⟨k, i, q⟩ => by cases q
theorem md_za {n : Nat} (_ : n < 195 ∨ 202 < n) : ¬ md_ (za n) := md_z n
theorem md_wa {i : Fin 12} {j : Nat} : ¬ md_ (wa i j) := fun ⟨k, i, q⟩ => by cases q
theorem fr_fC {i : Fin 12} {h h1 : HI} (f : fr_ i h h1) : fC_ h h1 := fun a k c => f a k (fun j q => by
  rcases c with c | c
  · exact md_wa (q ▸ c)
  · rw [q] at c; cases c)
section RCG
variable {A : As_} {hi h1 : HI} {x : AX}
theorem RC.cg (H : RC A hi x) (f : fM_ hi h1) : RC A h1 x := by
  obtain ⟨⟨a1, a2, a3, a4, a5, a6⟩, ⟨p, b1, b2', b3, b4⟩, c, d1, d2, d3, d4⟩ := H
  have hv : ∀ i, vw_ i h1 = vw_ i hi := fun i => V_f (fun j k => f _ _ md_wa)
  refine ⟨⟨(f _ _ (md_za (by omega))).trans a1, fun k hk => ?_, (f _ _ (md_za (by omega))).trans a3, (f _ _ (md_za (by omega))).trans a4, (f _ _ (md_za (by omega))).trans a5, fun q => (hv 0).trans (a6 q)⟩, ⟨p, b1, (f _ _ (md_za (by omega))).trans b2', (f _ _ (md_za (by omega))).trans b3, fun j v q => (hv _).trans (b4 j v q)⟩, fun k hk => ⟨(f _ _ (md_za (by omega))).trans (c k hk).1, fun v q => (hv _).trans ((c k hk).2 v q)⟩, (f _ _ (md_za (by omega))).trans d1, (f _ _ (md_za (by omega))).trans d2, fun k hk => (f _ _ (md_za (by omega))).trans (d3 k hk), by_eq (fun k => (f _ _ (md_za (by omega)))) d4⟩
  rw [f _ _ (md_za (by omega))]
  exact a2 k hk
end RCG
section RLL
variable {A : As_} {hi h1 : HI} {x x1 : AX}
theorem RC.cx (H : RC A hi x) (e : x1.2.2.2.1 = x.2.2.2.1) : RC A hi x1 := ⟨H.1, H.2.1, H.2.2.1, H.2.2.2.1, H.2.2.2.2.1, H.2.2.2.2.2.1, by rw [e]; exact H.2.2.2.2.2.2⟩
/-- what a call may add of cells: rows, ints -/
def XB (x x1 : AX) : Prop := x1.2.2.2.2.2.2 = x.2.2.2.2.2.2 ∧ x1.2.2.2.2.1 + x.2.2.2.1 ≤ x.2.2.2.2.1 + x1.2.2.2.1 + 8 ∧ x1.2.2.2.2.2.1 + 2 * x.2.2.2.1 ≤ x.2.2.2.2.2.1 + 2 * x1.2.2.2.1 + 2000
/-- a call of the class's, seen by the law -/
def Ck_ (A' : As_) (S : Option (Int32 × HI × AX)) (hi : HI) (x : AX) (code val : Int32) : Prop := ∃ h1 x1, S = some (code, h1, x1) ∧ (code = 0 → x1.2.1 = val.toInt64) ∧ RC A' h1 x1 ∧ fC_ hi h1 ∧ XB x x1
theorem XB.l {v : Int64} : XB x (xl x v) := ⟨rfl, Nat.le_add_right _ _, Nat.le_add_right _ _⟩
theorem XB.c : XB x (xc x) := ⟨rfl, by show x.2.2.2.2.1 + 1 + x.2.2.2.1 ≤ _; show _ ≤ x.2.2.2.2.1 + x.2.2.2.1 + 8; omega, by show x.2.2.2.2.2.1 + 6 + 2 * x.2.2.2.1 ≤ x.2.2.2.2.2.1 + 2 * x.2.2.2.1 + 2000; omega⟩
theorem Ck_.ok {v : Int32} (H : RC A hi x) : Ck_ A (some ((0 : Int32), hi, xl x v.toInt64)) hi x 0 v := ⟨hi, _, rfl, fun _ => rfl, H.cx rfl, fC_.refl hi, XB.l⟩
theorem Ck_.no {c v : Int32} (hc : c ≠ 0) (H : RC A hi x) : Ck_ A (some (c, hi, xc x)) hi x c v := ⟨hi, _, rfl, fun q => absurd q hc, H.cx rfl, fC_.refl hi, XB.c⟩
/-! first questions -/
theorem rq_ (H : RC A hi x) : sh_X9_requireSetup hi = some (if A.ld = true then Sum.inl () else Sum.inr 0) := by
  unfold sh_X9_requireSetup
  rw [H.1.2.2.2.2.1]
  cases A.ld <;> rfl
/-- a number that a set-up world has -/
theorem CG {v : Int32} {S : Option (Int32 ⊕ Nat)} (H : RC A hi x) (hS : S = bT (sh_X9_requireSetup hi) fun _ => some (Sum.inl v)) : Ck_ A (bW S (fun v2 => some ((0 : Int32), hi, xl x v2.toInt64)) (fun E => if E = 0 then some ((1 : Int32), hi, xc x) else none)) hi x (if A.ld = true then 0 else 1) v := by
  rw [hS, rq_ H]
  cases A.ld with
  | true => exact Ck_.ok H
  | false => exact Ck_.no (by decide) H
/-- .. and one that is a yes or a no -/
theorem CGb {v : Bool} {S : Option (Int32 ⊕ Nat)} (H : RC A hi x) (hS : S = bT (sh_X9_requireSetup hi) fun _ => some (Sum.inl (b2 v))) : Ck_ A (bW S (fun v2 => if v2 = 0 then some ((0 : Int32), hi, xl x (Int64.ofNat 0)) else some ((0 : Int32), hi, xl x (Int64.ofNat 1))) (fun E => if E = 0 then some ((1 : Int32), hi, xc x) else none)) hi x (if A.ld = true then 0 else 1) (b2 v) := by
  rw [hS, rq_ H]
  cases A.ld with
  | true =>
    cases v with
    | true => exact ⟨hi, _, rfl, fun _ => rfl, H.cx rfl, fC_.refl hi, XB.l⟩
    | false => exact ⟨hi, _, rfl, fun _ => rfl, H.cx rfl, fC_.refl hi, XB.l⟩
  | false => exact Ck_.no (by decide) H
end RLL
