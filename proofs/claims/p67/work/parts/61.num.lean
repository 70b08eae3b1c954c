/-! numbers of the row; what is known of it -/
def oI : Option Nat → Int32
  | none => -1
  | some t => nI t
def b2 (b : Bool) : Int32 := if b = true then 1 else 0
theorem b2_0 {b : Bool} : b2 b = 0 ↔ b = false := by cases b <;> decide
theorem b2_1 {b : Bool} : b2 b = 1 ↔ b = true := by cases b <;> decide
def in_ (w : Wd) (k a b : Nat) : Prop := w k = nI (nn w k) ∧ a ≤ nn w k ∧ nn w k ≤ b
def ot_ (w : Wd) (k : Nat) : Prop := w k = -1 ∨ (w k = nI (nn w k) ∧ nn w k < nn w 0 * nn w 1)
theorem nI_m1 {n : Nat} (h : n < 2 ^ 31) : nI n ≠ -1 := by
  intro e
  have := congrArg Int32.toInt e
  rw [nI_toInt h] at this
  have h2 : (-1 : Int32).toInt = -1 := by decide
  omega
theorem nn_of {w : Wd} {k n : Nat} (h : w k = nI n) (hn : n < 2 ^ 31) : nn w k = n := by
  unfold nn
  rw [h, nI_clamp hn]
theorem in_.of {w : Wd} {k a b n : Nat} (h : w k = nI n) (h1 : a ≤ n) (h2 : n ≤ b) (hb : b < 2 ^ 31) : in_ w k a b := by
  have e := nn_of h (by omega)
  exact ⟨by rw [e]; exact h, by omega, by omega⟩
/-- what the settings fix -/
def st_ (w : Wd) : Prop := in_ w 0 2 8 ∧ in_ w 1 2 10 ∧ in_ w 2 1 20 ∧ in_ w 4 1 99 ∧ in_ w 5 0 9 ∧ in_ w 17 0 30 ∧ in_ w 20 0 99 ∧ in_ w 21 0 20 ∧ in_ w 24 0 4 ∧ (∀ k, k < 10 → in_ w (36 + k) 0 60) ∧ (∀ k, k < nn w 17 → in_ w (54 + k) 0 4)
/-- the tiles: nothing beyond the floor -/
def ti_ (w : Wd) : Prop := (∀ t, t < 80 → in_ w (84 + t) 0 1) ∧ (∀ t, t < 80 → in_ w (164 + t) 0 1) ∧ (∀ t, t < 80 → in_ w (244 + t) 0 99) ∧ (∀ t, nn w 0 * nn w 1 ≤ t → t < 80 → w (84 + t) = 0 ∧ w (164 + t) = 0 ∧ w (244 + t) = 0 ∧ w (324 + t) = 0)
/-- the walker -/
def wq_ (w : Wd) : Prop := ot_ w 8 ∧ (w 9 = nI (nn w 9) ∧ nn w 9 < nn w 1) ∧ (w 8 ≠ -1 → nn w 9 = nn w 8 % nn w 1) ∧ in_ w 10 0 1 ∧ in_ w 11 0 9
def ws_ (w : Wd) : Prop := 0 < nn w 20 → w 22 = nI (nn w 22) ∧ nn w 22 < nn w 20
/-- the rest; K: the nights that have passed, or more; B: as many steps, or more; e: 1 where a minute is just over -/
def rs_ (K B e : Nat) (w : Wd) : Prop := in_ w 3 1 5 ∧ in_ w 6 0 (999 + K) ∧ (w 7 = nI (nn w 7) ∧ nn w 7 < nn w 0 * nn w 2 + e) ∧ in_ w 12 0 B ∧ in_ w 13 0 B ∧ ot_ w 16 ∧ (w 18 = nI (nn w 18) ∧ (nn w 18 < nn w 17 ∨ nn w 18 = 0)) ∧ in_ w 19 0 10 ∧ (∀ k, k < 10 → in_ w (26 + k) 0 1) ∧ (∀ k, k < nn w 19 → in_ w (404 + 2 * k) 0 (999 + K) ∧ in_ w (405 + 2 * k) 0 B)
def ib_ (K B e : Nat) (w : Wd) : Prop := st_ w ∧ ti_ w ∧ (wq_ w ∧ ws_ w) ∧ rs_ K B e w
/-! rows of ints by their places -/
theorem at_n {a : AA} {n t : Nat} {hi : HI} (ht : t < n) (hn : n < 2 ^ 31) : sh_at a n (nI t) hi = hi a t := by
  unfold sh_at
  rw [nI_clamp (by omega), if_pos ⟨nI_pos' (by omega), ht⟩]
theorem at_o {a : AA} {n t : Nat} {hi : HI} (ht : n ≤ t) (hn : t < 2 ^ 31) : sh_at a n (nI t) hi = 0 := by
  unfold sh_at
  rw [nI_clamp hn, if_neg (fun h => by omega)]
theorem at_m {a : AA} {n : Nat} {hi : HI} : sh_at a n (-1) hi = 0 := by
  unfold sh_at
  rw [if_neg (fun h => absurd h.1 (by decide))]
theorem put_n {a : AA} {n t : Nat} {v : Int32} {hi : HI} (ht : t < n) (hn : n < 2 ^ 31) : sh_put a n (nI t) v hi = am_u hi a t v := by
  unfold sh_put
  rw [nI_clamp (by omega), if_pos ⟨nI_pos' (by omega), ht⟩]
section CELLS
variable {i : Fin 12} {hi : HI}
/-- the World's numbers by their names -/
theorem vr_0 (i : Fin 12) (hi : HI) : hi (wa i 1) 4 = vw_ i hi 0 := (V_r (k := 0) (by decide) rfl (by decide)).symm
theorem vr_1 (i : Fin 12) (hi : HI) : hi (wa i 1) 5 = vw_ i hi 1 := (V_r (k := 1) (by decide) rfl (by decide)).symm
theorem vr_2 (i : Fin 12) (hi : HI) : hi (wa i 1) 6 = vw_ i hi 2 := (V_r (k := 2) (by decide) rfl (by decide)).symm
theorem vr_3 (i : Fin 12) (hi : HI) : hi (wa i 0) 8 = vw_ i hi 3 := (V_r (k := 3) (by decide) rfl (by decide)).symm
theorem vr_4 (i : Fin 12) (hi : HI) : hi (wa i 1) 7 = vw_ i hi 4 := (V_r (k := 4) (by decide) rfl (by decide)).symm
theorem vr_5 (i : Fin 12) (hi : HI) : hi (wa i 1) 8 = vw_ i hi 5 := (V_r (k := 5) (by decide) rfl (by decide)).symm
theorem vr_6 (i : Fin 12) (hi : HI) : hi (wa i 0) 9 = vw_ i hi 6 := (V_r (k := 6) (by decide) rfl (by decide)).symm
theorem vr_7 (i : Fin 12) (hi : HI) : hi (wa i 0) 10 = vw_ i hi 7 := (V_r (k := 7) (by decide) rfl (by decide)).symm
theorem vr_8 (i : Fin 12) (hi : HI) : hi (wa i 6) 0 = vw_ i hi 8 := (V_r (k := 8) (by decide) rfl (by decide)).symm
theorem vr_9 (i : Fin 12) (hi : HI) : hi (wa i 6) 1 = vw_ i hi 9 := (V_r (k := 9) (by decide) rfl (by decide)).symm
theorem vr_10 (i : Fin 12) (hi : HI) : hi (wa i 6) 2 = vw_ i hi 10 := (V_r (k := 10) (by decide) rfl (by decide)).symm
theorem vr_11 (i : Fin 12) (hi : HI) : hi (wa i 6) 3 = vw_ i hi 11 := (V_r (k := 11) (by decide) rfl (by decide)).symm
theorem vr_12 (i : Fin 12) (hi : HI) : hi (wa i 6) 5 = vw_ i hi 12 := (V_r (k := 12) (by decide) rfl (by decide)).symm
theorem vr_13 (i : Fin 12) (hi : HI) : hi (wa i 6) 6 = vw_ i hi 13 := (V_r (k := 13) (by decide) rfl (by decide)).symm
theorem vr_14 (i : Fin 12) (hi : HI) : hi (wa i 6) 7 = vw_ i hi 14 := (V_r (k := 14) (by decide) rfl (by decide)).symm
theorem vr_15 (i : Fin 12) (hi : HI) : hi (wa i 6) 8 = vw_ i hi 15 := (V_r (k := 15) (by decide) rfl (by decide)).symm
theorem vr_16 (i : Fin 12) (hi : HI) : hi (wa i 0) 12 = vw_ i hi 16 := (V_r (k := 16) (by decide) rfl (by decide)).symm
theorem vr_17 (i : Fin 12) (hi : HI) : hi (wa i 1) 12 = vw_ i hi 17 := (V_r (k := 17) (by decide) rfl (by decide)).symm
theorem vr_18 (i : Fin 12) (hi : HI) : hi (wa i 0) 13 = vw_ i hi 18 := (V_r (k := 18) (by decide) rfl (by decide)).symm
theorem vr_19 (i : Fin 12) (hi : HI) : hi (wa i 7) 2 = vw_ i hi 19 := (V_r (k := 19) (by decide) rfl (by decide)).symm
theorem vr_20 (i : Fin 12) (hi : HI) : hi (wa i 1) 9 = vw_ i hi 20 := (V_r (k := 20) (by decide) rfl (by decide)).symm
theorem vr_21 (i : Fin 12) (hi : HI) : hi (wa i 1) 10 = vw_ i hi 21 := (V_r (k := 21) (by decide) rfl (by decide)).symm
theorem vr_22 (i : Fin 12) (hi : HI) : hi (wa i 6) 4 = vw_ i hi 22 := (V_r (k := 22) (by decide) rfl (by decide)).symm
theorem vr_23 (i : Fin 12) (hi : HI) : hi (wa i 0) 11 = vw_ i hi 23 := (V_r (k := 23) (by decide) rfl (by decide)).symm
theorem vr_24 (i : Fin 12) (hi : HI) : hi (wa i 1) 11 = vw_ i hi 24 := (V_r (k := 24) (by decide) rfl (by decide)).symm
theorem adr_cur {k : Nat} (h : k < 10) : adr (26 + k) = (10, k) := by
  unfold adr
  rw [if_neg (by omega), if_pos (by omega), show 26 + k - 26 = k by omega]
theorem adr_dra {k : Nat} (h : k < 10) : adr (36 + k) = (2, k) := by
  unfold adr
  rw [if_neg (by omega), if_neg (by omega), if_pos (by omega), show 36 + k - 36 = k by omega]
theorem adr_bowl {k : Nat} (h : k < 80) : adr (84 + k) = (13, k) := by
  unfold adr
  rw [if_neg (by omega), if_neg (by omega), if_neg (by omega), if_neg (by omega), if_neg (by omega), if_pos (by omega), show 84 + k - 84 = k by omega]
theorem adr_rug {k : Nat} (h : k < 80) : adr (164 + k) = (14, k) := by
  unfold adr
  rw [if_neg (by omega), if_neg (by omega), if_neg (by omega), if_neg (by omega), if_neg (by omega), if_neg (by omega), if_pos (by omega), show 164 + k - 164 = k by omega]
theorem adr_spill {k : Nat} (h : k < 80) : adr (244 + k) = (12, k) := by
  unfold adr
  rw [if_neg (by omega), if_neg (by omega), if_neg (by omega), if_neg (by omega), if_neg (by omega), if_neg (by omega), if_neg (by omega), if_pos (by omega), show 244 + k - 244 = k by omega]
theorem adr_wear {k : Nat} (h : k < 80) : adr (324 + k) = (11, k) := by
  unfold adr
  rw [if_neg (by omega), if_neg (by omega), if_neg (by omega), if_neg (by omega), if_neg (by omega), if_neg (by omega), if_neg (by omega), if_neg (by omega), if_pos (by omega), show 324 + k - 324 = k by omega]
theorem vr_cur (i : Fin 12) (hi : HI) {k : Nat} (h : k < 10) : hi (wa i 10) k = vw_ i hi (26 + k) := (V_r (by omega) (adr_cur h) (by omega)).symm
theorem vr_dra (i : Fin 12) (hi : HI) {k : Nat} (h : k < 10) : hi (wa i 2) k = vw_ i hi (36 + k) := (V_r (by omega) (adr_dra h) (by omega)).symm
theorem vr_bowl (i : Fin 12) (hi : HI) {k : Nat} (h : k < 80) : hi (wa i 13) k = vw_ i hi (84 + k) := (V_r (by omega) (adr_bowl h) (by omega)).symm
theorem vr_rug (i : Fin 12) (hi : HI) {k : Nat} (h : k < 80) : hi (wa i 14) k = vw_ i hi (164 + k) := (V_r (by omega) (adr_rug h) (by omega)).symm
theorem vr_spill (i : Fin 12) (hi : HI) {k : Nat} (h : k < 80) : hi (wa i 12) k = vw_ i hi (244 + k) := (V_r (by omega) (adr_spill h) (by omega)).symm
theorem vr_wear (i : Fin 12) (hi : HI) {k : Nat} (h : k < 80) : hi (wa i 11) k = vw_ i hi (324 + k) := (V_r (by omega) (adr_wear h) (by omega)).symm
/-- and how they change -/
theorem uw_cur {k : Nat} {v : Int32} (h : k < 10) : vw_ i (am_u hi (wa i 10) k v) = upd (vw_ i hi) (26 + k) v := V_u (by omega) (adr_cur h) (by omega)
theorem uw_bowl {k : Nat} {v : Int32} (h : k < 80) : vw_ i (am_u hi (wa i 13) k v) = upd (vw_ i hi) (84 + k) v := V_u (by omega) (adr_bowl h) (by omega)
theorem uw_rug {k : Nat} {v : Int32} (h : k < 80) : vw_ i (am_u hi (wa i 14) k v) = upd (vw_ i hi) (164 + k) v := V_u (by omega) (adr_rug h) (by omega)
theorem uw_spill {k : Nat} {v : Int32} (h : k < 80) : vw_ i (am_u hi (wa i 12) k v) = upd (vw_ i hi) (244 + k) v := V_u (by omega) (adr_spill h) (by omega)
theorem uw_wear {k : Nat} {v : Int32} (h : k < 80) : vw_ i (am_u hi (wa i 11) k v) = upd (vw_ i hi) (324 + k) v := V_u (by omega) (adr_wear h) (by omega)
theorem uw_3 {v : Int32} : vw_ i (am_u hi (wa i 0) 8 v) = upd (vw_ i hi) 3 v := V_u (by decide) rfl (by decide)
theorem uw_6 {v : Int32} : vw_ i (am_u hi (wa i 0) 9 v) = upd (vw_ i hi) 6 v := V_u (by decide) rfl (by decide)
theorem uw_7 {v : Int32} : vw_ i (am_u hi (wa i 0) 10 v) = upd (vw_ i hi) 7 v := V_u (by decide) rfl (by decide)
theorem uw_8 {v : Int32} : vw_ i (am_u hi (wa i 6) 0 v) = upd (vw_ i hi) 8 v := V_u (by decide) rfl (by decide)
theorem uw_9 {v : Int32} : vw_ i (am_u hi (wa i 6) 1 v) = upd (vw_ i hi) 9 v := V_u (by decide) rfl (by decide)
theorem uw_10 {v : Int32} : vw_ i (am_u hi (wa i 6) 2 v) = upd (vw_ i hi) 10 v := V_u (by decide) rfl (by decide)
theorem uw_11 {v : Int32} : vw_ i (am_u hi (wa i 6) 3 v) = upd (vw_ i hi) 11 v := V_u (by decide) rfl (by decide)
theorem uw_12 {v : Int32} : vw_ i (am_u hi (wa i 6) 5 v) = upd (vw_ i hi) 12 v := V_u (by decide) rfl (by decide)
theorem uw_13 {v : Int32} : vw_ i (am_u hi (wa i 6) 6 v) = upd (vw_ i hi) 13 v := V_u (by decide) rfl (by decide)
theorem uw_14 {v : Int32} : vw_ i (am_u hi (wa i 6) 7 v) = upd (vw_ i hi) 14 v := V_u (by decide) rfl (by decide)
theorem uw_15 {v : Int32} : vw_ i (am_u hi (wa i 6) 8 v) = upd (vw_ i hi) 15 v := V_u (by decide) rfl (by decide)
theorem uw_16 {v : Int32} : vw_ i (am_u hi (wa i 0) 12 v) = upd (vw_ i hi) 16 v := V_u (by decide) rfl (by decide)
theorem uw_18 {v : Int32} : vw_ i (am_u hi (wa i 0) 13 v) = upd (vw_ i hi) 18 v := V_u (by decide) rfl (by decide)
theorem uw_22 {v : Int32} : vw_ i (am_u hi (wa i 6) 4 v) = upd (vw_ i hi) 22 v := V_u (by decide) rfl (by decide)
theorem uw_23 {v : Int32} : vw_ i (am_u hi (wa i 0) 11 v) = upd (vw_ i hi) 23 v := V_u (by decide) rfl (by decide)
end CELLS
